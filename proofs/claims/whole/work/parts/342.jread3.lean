/-! ===== PURE: the class reads a FORMULA: parts, terms, sums, both sides ===== -/
theorem Rok_c {len : Nat} {x : Nat ⊕ (Vc × Pst)} {cell cell' : Nat} {τ τ' : Sg} (h : Rok len x cell τ) (h1 : τ'.1 85 = τ.1 85) (h2 : τ'.1 87 = τ.1 87) (h3 : ∀ u, u < 5 → τ'.1 cell' u = τ.1 cell u) : Rok len x cell' τ' := by
  cases x with
  | inl p => exact Jdd_c h (by rw [h1])
  | inr a => exact ⟨Jst_c h.1 h1 h2, fun u hu => by rw [h3 u hu]; exact h.2 u hu⟩
/-- a part's share -/
def shr (f : Vc) (sg : Int32) (x : Nat ⊕ (Vc × Pst)) : Nat ⊕ (Vc × Pst) := pbd x fun a => .inr (fun u => f u + sg * a.1 u, a.2)
theorem jpart {c : Nat → Int32} {len q : Nat} {D : Nat → Vc} {b : Bool} {prs : Pst → Nat ⊕ (Vc × Pst)} {rs : Int32 → Sg → Option (Unit × Sg)} {o : Nat} {s : Pst} {σ : Sg} (hR : RsOk c len q D b prs rs o) (he : JE c len q D σ) (h : Jst len s σ) (sg : Int32) : ∃ τ, j_readPart_85 rs (nI o) sg σ = some ((), τ) ∧ FJ (o + 1) o σ τ ∧ Rok len (shr (σ.1 (96 + 1 + o)) sg (pPart c q D b prs s)) (96 + 1 + o) τ := by
  have ho := hR.1
  obtain ⟨r, τ1, x1, x2, x3, x4⟩ := jatom hR he h
  obtain ⟨k1, k2, k3, k4, k5⟩ := x3
  have hp0 : τ1.1 (96 + 1 + o) = σ.1 (96 + 1 + o) := (x2 (96 + 1 + o) (by omega) (by omega) (by omega) (by omega)).1
  have f1 : FJ (o + 1) o σ τ1 := FJ_mono x2 (Nat.le_refl _) (by omega)
  have he1 : JE c len q D τ1 := JE_fj he x2
  unfold j_readPart_85
  rw [x1, bd_s]
  -- once there is a fault
  have dead : ∀ p, Jdd p τ1 → ∃ τ, (bd (j_readPower_85 τ1) fun r2 σ2 => j_readPart_85_L17 rs fu (nI o) r (sg * r2) 0 σ2) = some ((), τ) ∧ FJ (o + 1) o σ τ ∧ Jdd p τ := by
    intro p hd
    obtain ⟨τ2, y1, y2, y3⟩ := jtimesL (rs := rs) (o := o) (r := r) (w := sg * 1) (σ := τ1) (by omega) ⟨k1, k2⟩ k3
    exact ⟨τ2, by rw [jpow_d hd, bd_s, y1], FJ_trans f1 (FJ_p ho y2), Jdd_c hd (by rw [FR_i y2 (FR_1 (by omega))])⟩
  unfold pPart
  cases hx : pAtom c q D b prs s with
  | inl p =>
    rw [hx] at x4
    exact dead p x4
  | inr a =>
    rw [hx] at x4
    obtain ⟨x4, x5⟩ := x4
    rw [pbd_r]
    rcases jpow he1 x4 with ⟨g, y1⟩ | ⟨g, g2, τ2, y1, y2, y3⟩ | ⟨g, g2, τ2, y1, y2, y3⟩
    · rw [if_neg g, y1, bd_s]
      obtain ⟨τ2, z1, z2, z3⟩ := jtimesL (rs := rs) (o := o) (r := r) (w := sg * 1) (σ := τ1) (by omega) ⟨k1, k2⟩ k3
      refine ⟨τ2, z1, FJ_trans f1 (FJ_p ho z2), Jst_c x4 (FR_i z2 (FR_1 (by omega))) (FR_i z2 (FR_1 (by omega))), ?_⟩
      intro u hu
      rw [z3 u hu, hp0, x5 u hu]
      show _ + sg * 1 * a.1 u = σ.1 (96 + 1 + o) u + sg * a.1 u
      rw [Int32.mul_one]
    · rw [if_pos g, if_pos g2, y1, bd_s]
      obtain ⟨τ3, z1, z2, z3⟩ := jtimesL (rs := rs) (o := o) (r := r) (w := sg * (psg c a.2.1 * (c (pgo c a.2.1) - 48))) (σ := τ2) (by omega) ⟨k1, k2⟩ k3
      refine ⟨τ3, z1, FJ_trans f1 (FJ_trans (FJ_85 y2) (FJ_p ho z2)), Jst_c y3 (FR_i z2 (FR_1 (by omega))) (FR_i z2 (FR_1 (by omega))), ?_⟩
      intro u hu
      rw [z3 u hu, FR_i y2 (FR_1 (show 96 + 1 + o ≠ 85 by omega)), hp0, FR_i y2 (FR_1 k4), x5 u hu]
      show _ = σ.1 (96 + 1 + o) u + sg * (a.1 u * (psg c a.2.1 * (c (pgo c a.2.1) - 48)))
      rw [Int32.mul_assoc, Int32.mul_comm (psg c a.2.1 * _) (a.1 u)]
    · rw [if_pos g, if_neg g2, y1, bd_s]
      obtain ⟨τ3, z1, z2, z3⟩ := jtimesL (rs := rs) (o := o) (r := r) (w := sg * 1) (σ := τ2) (by omega) ⟨k1, k2⟩ k3
      exact ⟨τ3, z1, FJ_trans f1 (FJ_trans (FJ_85 y2) (FJ_p ho z2)), Jdd_c y3 (by rw [FR_i z2 (FR_1 (by omega))])⟩
theorem jpart_d {rs : Int32 → Sg → Option (Unit × Sg)} {o p : Nat} {σ : Sg} (ho : o ≤ 6) (h : Jdd p σ) (sg : Int32) : ∃ τ, j_readPart_85 rs (nI o) sg σ = some ((), τ) ∧ FJ (o + 1) o σ τ ∧ Jdd p τ := by
  have ok := okc_104 ho
  obtain ⟨τ, y1, y2, y3⟩ := jtimesL (rs := rs) (o := o) (r := 104) (w := sg * 1) (σ := σ) (by omega) ⟨ok.1, ok.2.1⟩ ok.2.2.1
  refine ⟨τ, ?_, FJ_p ho y2, Jdd_c h (by rw [FR_i y2 (FR_1 (by omega))])⟩
  unfold j_readPart_85
  rw [jatom_d h, bd_s, jpow_d h, bd_s, y1]
/-- the parts that follow -/
theorem jtermL_d {rs : Int32 → Sg → Option (Unit × Sg)} {m : Nat} {o : Nat} {x : Int32} {p : Nat} {σ : Sg} (h : Jdd p σ) : j_readTerm_85_L28 rs (m + 1) (nI o) x σ = some ((), σ) := by
  show j_readTerm_85_H28 rs (j_readTerm_85_L28 rs m) (nI o) x σ = _
  unfold j_readTerm_85_H28 j_readTerm_85_b82
  by_cases e : 72 ≤ x
  · rw [if_pos e]
  · rw [if_neg e, jisn_d h _ _ (by decide) (by decide), bd_s, if_pos rfl]
theorem jtermL {c : Nat → Int32} {len q : Nat} {D : Nat → Vc} {b : Bool} {prs : Pst → Nat ⊕ (Vc × Pst)} {rs : Int32 → Sg → Option (Unit × Sg)} {o : Nat} (hR : RsOk c len q D b prs rs o) : ∀ n m (v : Vc) (s : Pst) (σ : Sg), n ≤ 72 → n + 1 < m → JE c len q D σ → Jst len s σ → (∀ u, u < 5 → σ.1 (96 + 1 + o) u = v u) → ∃ τ, j_readTerm_85_L28 rs m (nI o) (nI (72 - n)) σ = some ((), τ) ∧ FJ (o + 1) o σ τ ∧ Rok len (pTermL c q D b prs n v s) (96 + 1 + o) τ := by
  intro n
  induction n with
  | zero =>
    intro m v s σ _ hm he h hv
    obtain ⟨m, rfl⟩ : ∃ k, m = k + 1 := ⟨m - 1, by omega⟩
    refine ⟨σ, ?_, FJ_refl _ _ _, h, hv⟩
    show j_readTerm_85_H28 rs (j_readTerm_85_L28 rs m) (nI o) (nI 72) σ = _
    unfold j_readTerm_85_H28 j_readTerm_85_b82
    rw [if_pos (show (72 : Int32) ≤ nI 72 by decide)]
  | succ n ih =>
    intro m v s σ hn hm he h hv
    obtain ⟨m, rfl⟩ : ∃ k, m = k + 1 := ⟨m - 1, by omega⟩
    have hl := he.1
    have st : j_readTerm_85_L28 rs (m + 1) (nI o) (nI (72 - (n + 1))) σ = if c s.1 = 42 ∨ c s.1 = 47 then bd (j_readPart_85 rs (nI o) (if c s.1 = 42 then 1 else -1) (si σ 85 3 ((σ.1 85 3) + 1))) (fun _ σ1 => j_readTerm_85_L28 rs m (nI o) (nI (72 - n)) σ1) else some ((), σ) := by
      show j_readTerm_85_H28 rs (j_readTerm_85_L28 rs m) (nI o) _ σ = _
      unfold j_readTerm_85_H28 j_readTerm_85_b82 j_readTerm_85_b59
      rw [if_neg (show ¬ (72 : Int32) ≤ nI (72 - (n + 1)) from nI_ge (b := 72) (by omega) (by decide)), jisn he h, bd_s, nI_1, show 72 - (n + 1) + 1 = 72 - n by omega]
      by_cases g : c s.1 = 42 ∨ c s.1 = 47
      · rw [if_pos g, if_pos g, if_neg (by decide), jnx he h, bd_s]
        by_cases g2 : c s.1 = 42
        · rw [if_pos g2, if_pos g2]
        · rw [if_neg g2, if_neg g2]
      · rw [if_neg g, if_neg g, if_pos rfl]
    rw [st]
    unfold pTermL
    by_cases g : c s.1 = 42 ∨ c s.1 = 47
    · rw [if_pos g, if_pos g]
      obtain ⟨a1, a2⟩ := jgo h (c_lt he (fun w => by
        rw [w] at g
        rcases g with g | g
        · exact absurd g (by decide)
        · exact absurd g (by decide)))
      generalize hτ1 : si σ 85 3 ((σ.1 85 3) + 1) = τ1 at a1 a2
      have he1 : JE c len q D τ1 := JE_fj (a := 0) (b := 0) he (FJ_85 a2)
      obtain ⟨τ2, y1, y2, y3⟩ := jpart hR he1 a1 (if c s.1 = 42 then 1 else -1)
      have f2 : FJ (o + 1) o σ τ2 := FJ_trans (FJ_85 a2) y2
      have hp : ∀ u, τ1.1 (96 + 1 + o) u = σ.1 (96 + 1 + o) u := fun u => by rw [FR_i a2 (FR_1 (by omega))]
      rw [y1, bd_s]
      cases hx : pPart c q D b prs (s.1 + 1, s.2) with
      | inl p =>
        rw [hx] at y3
        obtain ⟨m, rfl⟩ : ∃ k, m = k + 1 := ⟨m - 1, by omega⟩
        exact ⟨τ2, jtermL_d y3, f2, y3⟩
      | inr a =>
        rw [hx] at y3
        obtain ⟨y3, y4⟩ := y3
        obtain ⟨τ3, z1, z2, z3⟩ := ih m (fun u => v u + (if c s.1 = 42 then 1 else -1) * a.1 u) a.2 τ2 (by omega) (by omega) (JE_fj he f2) y3 (fun u hu => by
          rw [y4 u hu]
          show τ1.1 (96 + 1 + o) u + _ = _
          rw [hp u, hv u hu])
        exact ⟨τ3, z1, FJ_trans f2 z2, z3⟩
    · rw [if_neg g, if_neg g]
      exact ⟨σ, rfl, FJ_refl _ _ _, h, hv⟩
theorem jterm {c : Nat → Int32} {len q : Nat} {D : Nat → Vc} {b : Bool} {prs : Pst → Nat ⊕ (Vc × Pst)} {rs : Int32 → Sg → Option (Unit × Sg)} {o : Nat} {s : Pst} {σ : Sg} (hR : RsOk c len q D b prs rs o) (he : JE c len q D σ) (h : Jst len s σ) : ∃ τ, j_readTerm_85 rs (nI o) σ = some ((), τ) ∧ FJ (o + 1) o σ τ ∧ Rok len (pTerm c q D b prs s) (96 + 1 + o) τ := by
  have ho := hR.1
  unfold j_readTerm_85 pTerm
  generalize hτ0 : si σ 85 5 ((σ.1 85 5) + 1) = τ0
  have f0 : FR [85] σ τ0 := by rw [← hτ0]; exact FR_si (FR_refl _ _) (by decide)
  have h0 : Jst len (s.1, s.2.1 + 1, s.2.2) τ0 := by
    obtain ⟨g1, g2, g3, g4, g5, g6, g7⟩ := h
    rw [← hτ0]
    refine ⟨by rw [si_j (by omega)]; exact g1, g2, by rw [si_j (by omega)]; exact g3, by rw [si_j (by omega)]; exact g4, by rw [si_e, g5, nI_1], by rw [si_j (by omega)]; exact g6, fun j hj => by rw [si_c (by omega)]; exact g7 j hj⟩
  obtain ⟨τ1, x1, x2, _, x3⟩ := jfill_x (c := 96 + 1 + o) (m := 5) (ckT_prd o (by omega)).1 (ckT_prd o (by omega)).2 (by omega) τ0
  have h1 : Jst len (s.1, s.2.1 + 1, s.2.2) τ1 := Jst_c h0 (FR_i x2 (FR_1 (by omega))) (FR_i x2 (FR_1 (by omega)))
  have f1 : FJ (o + 1) o σ τ1 := FJ_trans (FJ_85 f0) (FJ_p ho x2)
  obtain ⟨τ2, y1, y2, y3⟩ := jpart hR (JE_fj he f1) h1 1
  have f2 := FJ_trans f1 y2
  rw [inB_t (by omega) (by omega), gd_t, cl_n (by omega), x1, bd_s, y1, bd_s]
  cases hx : pPart c q D b prs (s.1, s.2.1 + 1, s.2.2) with
  | inl p =>
    rw [hx] at y3
    exact ⟨τ2, jtermL_d (m := fu - 1) y3, f2, y3⟩
  | inr a =>
    rw [hx] at y3
    obtain ⟨y3, y4⟩ := y3
    obtain ⟨τ3, z1, z2, z3⟩ := jtermL hR 72 fu a.1 a.2 τ2 (by omega) (by decide) (JE_fj he f2) y3 (fun u hu => by
      rw [y4 u hu]
      show τ1.1 (96 + 1 + o) u + 1 * a.1 u = a.1 u
      rw [x3 u hu, Int32.one_mul, Int32.zero_add])
    exact ⟨τ3, z1, FJ_trans f2 z2, z3⟩
theorem jterm_d {rs : Int32 → Sg → Option (Unit × Sg)} {o p : Nat} {σ : Sg} (ho : o ≤ 6) (h : Jdd p σ) : ∃ τ, j_readTerm_85 rs (nI o) σ = some ((), τ) ∧ FJ (o + 1) o σ τ ∧ Jdd p τ := by
  unfold j_readTerm_85
  generalize hτ0 : si σ 85 5 ((σ.1 85 5) + 1) = τ0
  have f0 : FR [85] σ τ0 := by rw [← hτ0]; exact FR_si (FR_refl _ _) (by decide)
  have h0 : Jdd p τ0 := Jdd_c h (by rw [← hτ0, si_j (by omega)])
  obtain ⟨τ1, x1, x2, _, x3⟩ := jfill_x (c := 96 + 1 + o) (m := 5) (ckT_prd o (by omega)).1 (ckT_prd o (by omega)).2 (by omega) τ0
  have h1 : Jdd p τ1 := Jdd_c h0 (by rw [FR_i x2 (FR_1 (by omega))])
  obtain ⟨τ2, y1, y2, y3⟩ := jpart_d (rs := rs) ho h1 1
  refine ⟨τ2, ?_, FJ_trans (FJ_85 f0) (FJ_trans (FJ_p ho x2) y2), y3⟩
  rw [inB_t (by omega) (by omega), gd_t, cl_n (by omega), x1, bd_s, y1, bd_s]
  exact jtermL_d (m := fu - 1) y3
/-- the terms that follow -/
theorem jsumL_d {rs : Int32 → Sg → Option (Unit × Sg)} {m : Nat} {o : Nat} {x : Int32} {p : Nat} {σ : Sg} (h : Jdd p σ) : j_readSum_85_L25 rs (m + 1) (nI o) x σ = some ((), σ) := by
  show j_readSum_85_H25 rs (j_readSum_85_L25 rs m) (nI o) x σ = _
  unfold j_readSum_85_H25 j_readSum_85_b91
  by_cases e : 72 ≤ x
  · rw [if_pos e]
  · rw [if_neg e, jisn_d h _ _ (by decide) (by decide), bd_s, if_pos rfl]
theorem jsumL {c : Nat → Int32} {len q : Nat} {D : Nat → Vc} {b : Bool} {prs : Pst → Nat ⊕ (Vc × Pst)} {rs : Int32 → Sg → Option (Unit × Sg)} {o : Nat} (hR : RsOk c len q D b prs rs o) : ∀ n m (v : Vc) (s : Pst) (σ : Sg), n ≤ 72 → n + 1 < m → JE c len q D σ → Jst len s σ → (∀ u, u < 5 → σ.1 (88 + 1 + o) u = v u) → ∃ τ, j_readSum_85_L25 rs m (nI o) (nI (72 - n)) σ = some ((), τ) ∧ FJ (o + 1) o σ τ ∧ Rok len (pSumL c q D b prs n v s) (88 + 1 + o) τ := by
  have ho := hR.1
  have hP : ck (96 + 1 + o) = 0 ∧ al (96 + 1 + o) = 5 := ckT_prd o (by omega)
  have hS : ck (88 + 1 + o) = 0 ∧ al (88 + 1 + o) = 5 := ckT_sum o (by omega)
  intro n
  induction n with
  | zero =>
    intro m v s σ _ hm he h hv
    obtain ⟨m, rfl⟩ : ∃ k, m = k + 1 := ⟨m - 1, by omega⟩
    refine ⟨σ, ?_, FJ_refl _ _ _, h, hv⟩
    show j_readSum_85_H25 rs (j_readSum_85_L25 rs m) (nI o) (nI 72) σ = _
    unfold j_readSum_85_H25 j_readSum_85_b91
    rw [if_pos (show (72 : Int32) ≤ nI 72 by decide)]
  | succ n ih =>
    intro m v s σ hn hm he h hv
    obtain ⟨m, rfl⟩ : ∃ k, m = k + 1 := ⟨m - 1, by omega⟩
    have hl := he.1
    have st : j_readSum_85_L25 rs (m + 1) (nI o) (nI (72 - (n + 1))) σ = if c s.1 = 43 ∨ c s.1 = 45 then bd (j_readTerm_85 rs (nI o) (si σ 85 3 ((σ.1 85 3) + 1))) (fun _ σ2 => if eqv (σ2.1 (96 + 1 + o)) (σ2.1 (88 + 1 + o)) = true then j_readSum_85_L25 rs m (nI o) (nI (72 - n)) σ2 else bd (j_markWrong_85 ((si σ 85 3 ((σ.1 85 3) + 1)).1 85 3) σ2) fun _ σ6 => j_readSum_85_L25 rs m (nI o) (nI (72 - n)) σ6) else some ((), σ) := by
      show j_readSum_85_H25 rs (j_readSum_85_L25 rs m) (nI o) _ σ = _
      unfold j_readSum_85_H25 j_readSum_85_b91 j_readSum_85_b85
      rw [if_neg (show ¬ (72 : Int32) ≤ nI (72 - (n + 1)) from nI_ge (b := 72) (by omega) (by decide)), jisn he h, bd_s, nI_1, show 72 - (n + 1) + 1 = 72 - n by omega]
      by_cases g : c s.1 = 43 ∨ c s.1 = 45
      · rw [if_pos g, if_pos g, if_neg (by decide)]
        congr 1
        funext _ σ2
        rw [inB_t (by omega) (by omega), gd_t, gd_t, cl_n (by omega), jsame_x hP hS, bd_s]
        by_cases g2 : eqv (σ2.1 (96 + 1 + o)) (σ2.1 (88 + 1 + o)) = true
        · rw [if_pos g2, if_pos g2, if_neg (by decide)]
        · rw [if_neg g2, if_neg g2, if_pos rfl]
      · rw [if_neg g, if_neg g, if_pos rfl]
    rw [st]
    unfold pSumL
    by_cases g : c s.1 = 43 ∨ c s.1 = 45
    · rw [if_pos g, if_pos g]
      obtain ⟨a1, a2⟩ := jgo h (c_lt he (fun w => by
        rw [w] at g
        rcases g with g | g
        · exact absurd g (by decide)
        · exact absurd g (by decide)))
      generalize hτ1 : si σ 85 3 ((σ.1 85 3) + 1) = τ1 at a1 a2
      have he1 : JE c len q D τ1 := JE_fj (a := 0) (b := 0) he (FJ_85 a2)
      have h13 : τ1.1 85 3 = nI (s.1 + 1) := a1.2.2.1
      have h72 : s.1 + 1 ≤ 72 := by have : s.1 + 1 ≤ len := a1.2.1; omega
      obtain ⟨τ2, y1, y2, y3⟩ := jterm hR he1 a1
      have f2 : FJ (o + 1) o σ τ2 := FJ_trans (FJ_85 a2) y2
      have hs2 : ∀ u, u < 5 → τ2.1 (88 + 1 + o) u = v u := fun u hu => by rw [(f2 (88 + 1 + o) (by omega) (by omega) (by omega) (by omega)).1]; exact hv u hu
      rw [y1, bd_s]
      cases hx : pTerm c q D b prs (s.1 + 1, s.2) with
      | inl p =>
        rw [hx] at y3
        obtain ⟨m, rfl⟩ : ∃ k, m = k + 1 := ⟨m - 1, by omega⟩
        by_cases g2 : eqv (τ2.1 (96 + 1 + o)) (τ2.1 (88 + 1 + o)) = true
        · rw [if_pos g2]
          exact ⟨τ2, jsumL_d y3, f2, y3⟩
        · obtain ⟨τ3, u1, u2, u3⟩ := jmark_d y3 (τ1.1 85 3)
          rw [if_neg g2, u1, bd_s]
          exact ⟨τ3, jsumL_d u3, FJ_trans f2 (FJ_87 u2), u3⟩
      | inr a =>
        rw [hx] at y3
        obtain ⟨y3, y4⟩ := y3
        rw [pbd_r]
        have hiff : eqv (τ2.1 (96 + 1 + o)) (τ2.1 (88 + 1 + o)) = true ↔ eqv a.1 v = true := by
          rw [eqv_iff, eqv_iff]
          constructor
          · intro w u hu
            rw [← y4 u hu, ← hs2 u hu]; exact w u hu
          · intro w u hu
            rw [y4 u hu, hs2 u hu]; exact w u hu
        by_cases g2 : eqv a.1 v = true
        · rw [if_pos (hiff.mpr g2), if_pos g2]
          obtain ⟨τ3, z1, z2, z3⟩ := ih m v (a.2.1, a.2.2.1, a.2.2.2.1, a.2.2.2.2) τ2 (by omega) (by omega) (JE_fj he f2) y3 hs2
          exact ⟨τ3, z1, FJ_trans f2 z2, z3⟩
        · rw [if_neg (fun w => g2 (hiff.mp w)), if_neg g2, h13]
          obtain ⟨τ3, u1, u2, u3⟩ := jmark y3 h72
          have f3 := FJ_trans f2 (FJ_87 (a := o + 1) (b := o) u2)
          rw [u1, bd_s]
          obtain ⟨τ4, z1, z2, z3⟩ := ih m v (a.2.1, a.2.2.1, mrk (s.1 + 1) a.2.2.2.1, a.2.2.2.2) τ3 (by omega) (by omega) (JE_fj he f3) u3 (fun u hu => by rw [FR_i u2 (FR_1 (by omega))]; exact hs2 u hu)
          exact ⟨τ4, z1, FJ_trans f3 z2, z3⟩
    · rw [if_neg g, if_neg g]
      exact ⟨σ, rfl, FJ_refl _ _ _, h, hv⟩
theorem cp_ps : ∀ o, o < 7 → cpB (96 + 1 + o) (88 + 1 + o) 0 0 5 = true := by decide +kernel
theorem FJ_sc {a b c0 : Nat} {σ : Sg} (ha : a ≤ 6) : FJ a b σ (scp σ c0 (88 + 1 + a) 0 0 5) := FJ_s ha (FR_sc (FR_refl _ _) (FR_0 _))
theorem jsumH {c : Nat → Int32} {len q : Nat} {D : Nat → Vc} {b : Bool} {prs : Pst → Nat ⊕ (Vc × Pst)} {rs : Int32 → Sg → Option (Unit × Sg)} {o : Nat} {s : Pst} {σ : Sg} (hR : RsOk c len q D b prs rs o) (he : JE c len q D σ) (h : Jst len s σ) : ∃ τ, j_readSum_85_H rs (nI o) σ = some ((), τ) ∧ FJ o o σ τ ∧ Rok len (pSumH c q D b prs s) (88 + 1 + o) τ := by
  have ho := hR.1
  obtain ⟨τ1, x1, x2, x3⟩ := jterm hR he h
  have f1 : FJ o o σ τ1 := FJ_mono x2 (by omega) (Nat.le_refl _)
  unfold j_readSum_85_H pSumH
  rw [x1, bd_s, inB_t (by omega) (by omega), gd_t, gd_t, cl_n (by omega), cp_ps o (by omega), gd_t]
  have f2 : FJ o o σ (scp τ1 (96 + 1 + o) (88 + 1 + o) 0 0 5) := FJ_trans f1 (FJ_sc ho)
  cases hx : pTerm c q D b prs s with
  | inl p =>
    rw [hx] at x3
    have hd : Jdd p (scp τ1 (96 + 1 + o) (88 + 1 + o) 0 0 5) := Jdd_c x3 (by rw [sc_c (by omega)])
    exact ⟨_, jsumL_d (m := fu - 1) hd, f2, hd⟩
  | inr a =>
    rw [hx] at x3
    obtain ⟨x3, x4⟩ := x3
    obtain ⟨τ3, z1, z2, z3⟩ := jsumL hR 72 fu a.1 a.2 (scp τ1 (96 + 1 + o) (88 + 1 + o) 0 0 5) (by omega) (by decide) (JE_fj he f2) (Jst_c x3 (sc_c (by omega)) (sc_c (by omega))) (fun u hu => by
      rw [sc_i (by omega) (by omega), Nat.zero_add, Nat.sub_zero]; exact x4 u hu)
    exact ⟨τ3, z1, FJ_trans f2 (FJ_mono z2 (by omega) (Nat.le_refl _)), z3⟩
theorem jsumH_d {rs : Int32 → Sg → Option (Unit × Sg)} {o p : Nat} {σ : Sg} (ho : o ≤ 6) (h : Jdd p σ) : ∃ τ, j_readSum_85_H rs (nI o) σ = some ((), τ) ∧ FJ o o σ τ ∧ Jdd p τ := by
  obtain ⟨τ1, x1, x2, x3⟩ := jterm_d (rs := rs) ho h
  unfold j_readSum_85_H
  rw [x1, bd_s, inB_t (by omega) (by omega), gd_t, gd_t, cl_n (by omega), cp_ps o (by omega), gd_t]
  have hd : Jdd p (scp τ1 (96 + 1 + o) (88 + 1 + o) 0 0 5) := Jdd_c x3 (by rw [sc_c (by omega)])
  exact ⟨_, jsumL_d (m := fu - 1) hd, FJ_trans (FJ_mono x2 (by omega) (Nat.le_refl _)) (FJ_sc ho), hd⟩
theorem jsum_p {c : Nat → Int32} {len q : Nat} {D : Nat → Vc} : ∀ d o m, o + d = 6 → d < m → (∀ s σ, JE c len q D σ → Jst len s σ → ∃ τ, j_readSum_85 m (nI o) σ = some ((), τ) ∧ FJ o o σ τ ∧ Rok len (pSum c q D d s) (88 + 1 + o) τ) ∧ ∀ p σ, Jdd p σ → ∃ τ, j_readSum_85 m (nI o) σ = some ((), τ) ∧ FJ o o σ τ ∧ Jdd p τ
  | 0, o, m, ho, hm => by
    obtain ⟨m, rfl⟩ : ∃ k, m = k + 1 := ⟨m - 1, by omega⟩
    have hR : RsOk c len q D false (fun _ => .inl 0) (j_readSum_85 m) o := ⟨by omega, ⟨fun w => (by cases w), fun w => by omega⟩, fun w => by omega⟩
    exact ⟨fun s σ he h => jsumH hR he h, fun p σ h => jsumH_d (by omega) h⟩
  | d + 1, o, m, ho, hm => by
    obtain ⟨m, rfl⟩ : ∃ k, m = k + 1 := ⟨m - 1, by omega⟩
    have hR : RsOk c len q D true (pSum c q D d) (j_readSum_85 m) o := ⟨by omega, ⟨fun _ => by omega, fun _ => rfl⟩, fun _ => jsum_p d (o + 1) m (by omega) (by omega)⟩
    exact ⟨fun s σ he h => jsumH hR he h, fun p σ h => jsumH_d (by omega) h⟩
/-- both sides -/
def jtail (σ2 : Sg) : Option (Unit × Sg) := bd (j_readSum_85 12 0 σ2) fun _ σ3 => gd (cpB 89 105 0 0 5) (bd (j_expect_85 61 (scp σ3 89 105 0 0 5)) fun _ σ5 => bd (j_readSum_85 12 0 σ5) fun _ σ6 => gd (cpB 89 106 0 0 5) (bd (j_expect_85 (-1) (scp σ6 89 106 0 0 5)) fun _ σ8 => bd (j_same_105_106 σ8) fun r9 σ9 => if r9 = 0 then bd (j_markWrong_85 ((scp σ3 89 105 0 0 5).1 85 3) σ9) fun _ σ10 => some ((), σ10) else some ((), σ9)))
def FRR : List Nat := [85, 86, 87, 89, 90, 91, 92, 93, 94, 95, 97, 98, 99, 100, 101, 102, 103, 105, 106]
theorem FRR_no {c : Nat} (h : FRR.contains c = false) : c ≠ 85 ∧ c ≠ 86 ∧ c ≠ 87 ∧ (c < 89 ∨ 95 < c) ∧ (c < 97 ∨ 103 < c) ∧ c ≠ 105 ∧ c ≠ 106 := by
  unfold FRR at h
  simp at h
  omega
theorem FRR_fj {σ τ : Sg} (h : FJ 0 0 σ τ) : FR FRR σ τ := by
  intro c hc
  obtain ⟨a, _, b, d, e, _⟩ := FRR_no hc
  exact h c a b (by omega) (by omega)
/-- what was read, in the end -/
def Rd (len : Nat) (x : Nat ⊕ (Vc × Vc × Nat × Pst)) (τ : Sg) : Prop := match x with
  | .inl p => Jdd p τ
  | .inr r => (r.2.2.2.1 ≤ len ∧ r.2.2.1 < len) ∧ τ.1 85 2 = nI len ∧ τ.1 85 4 = -9 ∧ τ.1 85 5 = nI r.2.2.2.2.1 ∧ τ.1 85 6 = r.2.2.2.2.2.2 ∧ (∀ j, j < 72 → τ.1 87 j = if (if eqv r.1 r.2.1 = true then r.2.2.2.2.2.1 else mrk r.2.2.1 r.2.2.2.2.2.1) j = true then 1 else 0) ∧ (∀ u, u < 5 → τ.1 105 u = r.1 u) ∧ ∀ u, u < 5 → τ.1 106 u = r.2.1 u
theorem jtail_ok {c : Nat → Int32} {len q : Nat} {D : Nat → Vc} {σ : Sg} (he : JE c len q D σ) (h : Jst len (0, 0, (fun _ => false), 0) σ) : ∃ τ, jtail σ = some ((), τ) ∧ FR FRR σ τ ∧ Rd len (pBoth c q D) τ := by
  have hl := he.1
  obtain ⟨r1, r2⟩ := jsum_p (c := c) (len := len) (q := q) (D := D) 6 0 12 rfl (by omega)
  have cp5 : cpB 89 105 0 0 5 = true := by decide +kernel
  have cp6 : cpB 89 106 0 0 5 = true := by decide +kernel
  unfold jtail pBoth
  -- once there is a fault, at the end
  have fin : ∀ p x τ, Jdd p τ → ∃ τ', (gd (cpB 89 106 0 0 5) (bd (j_expect_85 (-1) (scp τ 89 106 0 0 5)) fun _ σ8 => bd (j_same_105_106 σ8) fun r9 σ9 => if r9 = 0 then bd (j_markWrong_85 x σ9) fun _ σ10 => some ((), σ10) else some ((), σ9))) = some ((), τ') ∧ FR FRR τ τ' ∧ Jdd p τ' := by
    intro p x τ hd
    have hd2 : Jdd p (scp τ 89 106 0 0 5) := Jdd_c hd (by rw [sc_c (by omega)])
    have f2 : FR FRR τ (scp τ 89 106 0 0 5) := FR_sc (FR_refl _ _) (by decide)
    obtain ⟨τ2, u1, u2, u3⟩ := jexp_d hd2 (-1)
    have f3 := FR_trans f2 (FR_mono (T := FRR) (by decide) u2)
    rw [cp6, gd_t, u1, bd_s, jsame_ab, bd_s]
    by_cases g : eqv (τ2.1 105) (τ2.1 106) = true
    · rw [if_pos g, if_neg (by decide)]
      exact ⟨τ2, rfl, f3, u3⟩
    · obtain ⟨τ3, v1, v2, v3⟩ := jmark_d u3 x
      rw [if_neg g, if_pos rfl, v1, bd_s]
      exact ⟨τ3, rfl, FR_trans f3 (FR_mono (by decide) v2), v3⟩
  -- from the second sum on, once there is a fault
  have fin2 : ∀ p x τ, Jdd p τ → ∃ τ', (bd (j_readSum_85 12 0 τ) fun _ σ6 => gd (cpB 89 106 0 0 5) (bd (j_expect_85 (-1) (scp σ6 89 106 0 0 5)) fun _ σ8 => bd (j_same_105_106 σ8) fun r9 σ9 => if r9 = 0 then bd (j_markWrong_85 x σ9) fun _ σ10 => some ((), σ10) else some ((), σ9))) = some ((), τ') ∧ FR FRR τ τ' ∧ Jdd p τ' := by
    intro p x τ hd
    obtain ⟨τ2, u1, u2, u3⟩ := r2 p τ hd
    have u1' : j_readSum_85 12 0 τ = some ((), τ2) := u1
    rw [u1', bd_s]
    obtain ⟨τ3, v1, v2, v3⟩ := fin p x τ2 u3
    exact ⟨τ3, v1, FR_trans (FRR_fj u2) v2, v3⟩
  obtain ⟨τ1, x1, x2, x3⟩ := r1 _ σ he h
  have x1' : j_readSum_85 12 0 σ = some ((), τ1) := x1
  have f1 : FR FRR σ (scp τ1 89 105 0 0 5) := FR_sc (FRR_fj x2) (by decide)
  rw [x1', bd_s, cp5, gd_t]
  cases hx : pSum c q D 6 (0, 0, (fun _ => false), 0) with
  | inl p =>
    rw [hx] at x3
    have hd : Jdd p (scp τ1 89 105 0 0 5) := Jdd_c x3 (by rw [sc_c (by omega)])
    obtain ⟨τ2, u1, u2, u3⟩ := jexp_d hd 61
    rw [u1, bd_s]
    obtain ⟨τ3, v1, v2, v3⟩ := fin2 p ((scp τ1 89 105 0 0 5).1 85 3) τ2 u3
    exact ⟨τ3, v1, FR_trans f1 (FR_trans (FR_mono (by decide) u2) v2), v3⟩
  | inr a =>
    rw [hx] at x3
    obtain ⟨x3, x4⟩ := x3
    rw [pbd_r]
    generalize hτ2 : scp τ1 89 105 0 0 5 = τ2 at f1
    have s2 : Jst len a.2 τ2 := by rw [← hτ2]; exact Jst_c x3 (sc_c (by omega)) (sc_c (by omega))
    have he2 : JE c len q D τ2 := by
      have e1 : JE c len q D τ1 := JE_fj he x2
      obtain ⟨h1, h2, h3, h4, h5, h6, h7, h8⟩ := e1
      rw [← hτ2]
      exact ⟨h1, h2, fun j hj => by rw [sc_c (by omega)]; exact h3 j hj, h4, h5, by rw [sc_c (by omega)]; exact h6, fun k u hk hu => by rw [sc_c (by omega)]; exact h7 k u hk hu, fun u hu => by rw [sc_c (by omega)]; exact h8 u hu⟩
    have s105 : ∀ u, u < 5 → τ2.1 105 u = a.1 u := fun u hu => by
      rw [← hτ2, sc_i (by omega) (by omega), Nat.zero_add, Nat.sub_zero]; exact x4 u hu
    have h3 : τ2.1 85 3 = nI a.2.1 := s2.2.2.1
    have ha72 : a.2.1 ≤ 72 := by have := s2.2.1; omega
    rcases jexp he2 s2 61 (by decide) with ⟨q1, τ3, y1, y2, y3⟩ | ⟨q1, τ3, y1, y2, y3⟩
    · rw [if_pos q1, y1, bd_s, h3]
      have f3 : FR FRR σ τ3 := FR_trans f1 (FR_mono (by decide) y2)
      have he3 : JE c len q D τ3 := JE_fj (a := 0) (b := 0) he2 (FJ_85 y2)
      obtain ⟨τ4, z1, z2, z3⟩ := r1 _ τ3 he3 y3
      have z1' : j_readSum_85 12 0 τ3 = some ((), τ4) := z1
      have f4 : FR FRR σ τ4 := FR_trans f3 (FRR_fj z2)
      rw [z1', bd_s]
      cases hy : pSum c q D 6 (a.2.1 + 1, a.2.2) with
      | inl p =>
        rw [hy] at z3
        obtain ⟨τ5, v1, v2, v3⟩ := fin p (nI a.2.1) τ4 z3
        exact ⟨τ5, v1, FR_trans f4 v2, v3⟩
      | inr e =>
        rw [hy] at z3
        obtain ⟨z3, z4⟩ := z3
        rw [pbd_r, cp6, gd_t]
        generalize hτ5 : scp τ4 89 106 0 0 5 = τ5
        have f5 : FR FRR σ τ5 := by rw [← hτ5]; exact FR_sc f4 (by decide)
        have s5 : Jst len e.2 τ5 := by rw [← hτ5]; exact Jst_c z3 (sc_c (by omega)) (sc_c (by omega))
        have s5b : ∀ u, u < 5 → τ5.1 106 u = e.1 u := fun u hu => by
          rw [← hτ5, sc_i (by omega) (by omega), Nat.zero_add, Nat.sub_zero]; exact z4 u hu
        have s5a : ∀ u, u < 5 → τ5.1 105 u = a.1 u := fun u hu => by
          rw [← hτ5, sc_c (by omega), (z2 105 (by omega) (by omega) (by omega) (by omega)).1, FR_i y2 (by decide)]; exact s105 u hu
        have he5 : JE c len q D τ5 := by
          have e1 : JE c len q D τ4 := JE_fj he3 z2
          obtain ⟨h1, h2, h3, h4, h5, h6, h7, h8⟩ := e1
          rw [← hτ5]
          exact ⟨h1, h2, fun j hj => by rw [sc_c (by omega)]; exact h3 j hj, h4, h5, by rw [sc_c (by omega)]; exact h6, fun k u hk hu => by rw [sc_c (by omega)]; exact h7 k u hk hu, fun u hu => by rw [sc_c (by omega)]; exact h8 u hu⟩
        by_cases q2 : c e.2.1 = -1
        · rw [if_pos q2]
          have ex : j_expect_85 (-1) τ5 = some ((), si τ5 85 3 ((τ5.1 85 3) + 1)) := by
            unfold j_expect_85 j_expect_85_b25
            rw [jnx he5 s5, bd_s, if_pos q2]
          rw [ex, bd_s, jsame_ab, bd_s]
          generalize hτ6 : si τ5 85 3 ((τ5.1 85 3) + 1) = τ6
          have f6 : FR FRR σ τ6 := by rw [← hτ6]; exact FR_si f5 (by decide)
          obtain ⟨g1, g2, g3, g4, g5, g6, g7⟩ := s5
          have t2 : τ6.1 85 2 = nI len := by rw [← hτ6, si_j (by omega)]; exact g1
          have t4 : τ6.1 85 4 = -9 := by rw [← hτ6, si_j (by omega)]; exact g4
          have t5 : τ6.1 85 5 = nI e.2.2.1 := by rw [← hτ6, si_j (by omega)]; exact g5
          have t6 : τ6.1 85 6 = e.2.2.2.2 := by rw [← hτ6, si_j (by omega)]; exact g6
          have t7 : ∀ j, j < 72 → τ6.1 87 j = if e.2.2.2.1 j = true then 1 else 0 := fun j hj => by rw [← hτ6, si_c (by omega)]; exact g7 j hj
          have ta : ∀ u, u < 5 → τ6.1 105 u = a.1 u := fun u hu => by rw [← hτ6, si_c (by omega)]; exact s5a u hu
          have tb : ∀ u, u < 5 → τ6.1 106 u = e.1 u := fun u hu => by rw [← hτ6, si_c (by omega)]; exact s5b u hu
          have hiff : eqv (τ6.1 105) (τ6.1 106) = true ↔ eqv a.1 e.1 = true := by
            rw [eqv_iff, eqv_iff]
            constructor
            · intro w u hu
              rw [← ta u hu, ← tb u hu]; exact w u hu
            · intro w u hu
              rw [ta u hu, tb u hu]; exact w u hu
          by_cases g : eqv a.1 e.1 = true
          · rw [if_pos (hiff.mpr g), if_neg (by decide)]
            refine ⟨τ6, rfl, f6, ⟨g2, c_lt he (by rw [q1]; decide)⟩, t2, t4, t5, t6, ?_, ta, tb⟩
            show ∀ j, j < 72 → τ6.1 87 j = if (if eqv a.1 e.1 = true then e.2.2.2.1 else mrk a.2.1 e.2.2.2.1) j = true then 1 else 0
            rw [if_pos g]; exact t7
          · rw [if_neg (fun w => g (hiff.mp w)), if_pos rfl]
            have hJ : Jst len (e.2.1 + 1, e.2.2) τ6 ∨ True := Or.inr trivial
            have hm : ∃ τ7, j_markWrong_85 (nI a.2.1) τ6 = some ((), τ7) ∧ FR [87] τ6 τ7 ∧ ∀ j, j < 72 → τ7.1 87 j = if mrk a.2.1 e.2.2.2.1 j = true then 1 else 0 := by
              unfold j_markWrong_85 j_markWrong_85_b17
              rw [if_neg (nI_pos (by omega))]
              by_cases e72 : a.2.1 < 72
              · refine ⟨si τ6 87 a.2.1 1, ?_, FR_si (FR_refl _ _) (by decide), ?_⟩
                · rw [if_neg (show ¬ (72 : Int32) ≤ nI a.2.1 from nI_ge (b := 72) e72 (by decide)), inB_t e72 (by omega), gd_t, cl_n (by omega)]
                · intro j hj
                  by_cases e2 : j = a.2.1
                  · rw [e2, si_e, mrk_e, if_pos rfl]
                  · rw [si_j e2, mrk_n e2]; exact t7 j hj
              · refine ⟨τ6, ?_, FR_refl _ _, ?_⟩
                · rw [if_pos (show (72 : Int32) ≤ nI a.2.1 from nI_le (a := 72) (by omega) (by omega))]
                · intro j hj
                  rw [mrk_n (show j ≠ a.2.1 by omega)]; exact t7 j hj
            obtain ⟨τ7, u1, u2, u3⟩ := hm
            have e85 : τ7.1 85 = τ6.1 85 := FR_i u2 (by decide)
            rw [u1, bd_s]
            refine ⟨τ7, rfl, FR_trans f6 (FR_mono (by decide) u2), ⟨g2, c_lt he (by rw [q1]; decide)⟩, by rw [e85]; exact t2, by rw [e85]; exact t4, by rw [e85]; exact t5, by rw [e85]; exact t6, ?_, fun u hu => by rw [FR_i u2 (by decide)]; exact ta u hu, fun u hu => by rw [FR_i u2 (by decide)]; exact tb u hu⟩
            show ∀ j, j < 72 → τ7.1 87 j = if (if eqv a.1 e.1 = true then e.2.2.2.1 else mrk a.2.1 e.2.2.2.1) j = true then 1 else 0
            rw [if_neg g]; exact u3
        · rw [if_neg q2]
          have ex : ∃ τ6, j_expect_85 (-1) τ5 = some ((), τ6) ∧ FR [85] τ5 τ6 ∧ Jdd e.2.1 τ6 := by
            obtain ⟨τ6, u1, u2, u3⟩ := jfail hl s5
            refine ⟨τ6, ?_, u2, u3⟩
            unfold j_expect_85 j_expect_85_b25
            rw [jnx he5 s5, bd_s, if_neg q2, u1, bd_s]
          obtain ⟨τ6, u1, u2, u3⟩ := ex
          have f6 : FR FRR σ τ6 := FR_trans f5 (FR_mono (by decide) u2)
          rw [u1, bd_s, jsame_ab, bd_s]
          by_cases g : eqv (τ6.1 105) (τ6.1 106) = true
          · rw [if_pos g, if_neg (by decide)]
            exact ⟨τ6, rfl, f6, u3⟩
          · obtain ⟨τ7, v1, v2, v3⟩ := jmark_d u3 (nI a.2.1)
            rw [if_neg g, if_pos rfl, v1, bd_s]
            exact ⟨τ7, rfl, FR_trans f6 (FR_mono (by decide) v2), v3⟩
    · rw [if_neg q1, y1, bd_s, h3]
      obtain ⟨τ4, v1, v2, v3⟩ := fin2 a.2.1 (nI a.2.1) τ3 y3
      exact ⟨τ4, v1, FR_trans f1 (FR_trans (FR_mono (by decide) y2) v2), v3⟩
