/-! ===== PURE: the class reads a FORMULA: the small steps ===== -/
/-- what may change: sums from a on, products from b on -/
def FJ (a b : Nat) (σ σ' : Sg) : Prop := ∀ c, c ≠ 85 → c ≠ 87 → (c < 88 + 1 + a ∨ 95 < c) → (c < 96 + 1 + b ∨ 103 < c) → σ'.1 c = σ.1 c ∧ σ'.2 c = σ.2 c
theorem FJ_refl (a b : Nat) (σ : Sg) : FJ a b σ σ := fun _ _ _ _ _ => ⟨rfl, rfl⟩
theorem FJ_trans {a b : Nat} {x y z : Sg} (h : FJ a b x y) (g : FJ a b y z) : FJ a b x z := fun c h1 h2 h3 h4 => ⟨((g c h1 h2 h3 h4).1).trans ((h c h1 h2 h3 h4).1), ((g c h1 h2 h3 h4).2).trans ((h c h1 h2 h3 h4).2)⟩
theorem FJ_mono {a b a' b' : Nat} {x y : Sg} (h : FJ a b x y) (ha : a' ≤ a) (hb : b' ≤ b) : FJ a' b' x y := fun c h1 h2 h3 h4 => h c h1 h2 (by omega) (by omega)
theorem FJ_FR {a b : Nat} {S : List Nat} {x y : Sg} (h : FR S x y) (hS : ∀ c, c ∈ S → c = 85 ∨ c = 87 ∨ (88 + 1 + a ≤ c ∧ c ≤ 95) ∨ (96 + 1 + b ≤ c ∧ c ≤ 103)) : FJ a b x y := by
  intro c h1 h2 h3 h4
  apply h c
  cases hq : S.contains c
  · rfl
  · have hc : c ∈ S := by simpa using hq
    have := hS c hc
    omega
theorem FJ_85 {a b : Nat} {x y : Sg} (h : FR [85] x y) : FJ a b x y := FJ_FR h (fun c hc => by simp only [List.mem_cons, List.not_mem_nil, or_false] at hc; omega)
theorem FJ_87 {a b : Nat} {x y : Sg} (h : FR [87] x y) : FJ a b x y := FJ_FR h (fun c hc => by simp only [List.mem_cons, List.not_mem_nil, or_false] at hc; omega)
theorem FJ_p {a b : Nat} {x y : Sg} (hb : b ≤ 6) (h : FR [96 + 1 + b] x y) : FJ a b x y := FJ_FR h (fun c hc => by simp only [List.mem_cons, List.not_mem_nil, or_false] at hc; omega)
theorem FJ_s {a b : Nat} {x y : Sg} (ha : a ≤ 6) (h : FR [88 + 1 + a] x y) : FJ a b x y := FJ_FR h (fun c hc => by simp only [List.mem_cons, List.not_mem_nil, or_false] at hc; omega)
/-- what a reading stands on -/
def JE (c : Nat → Int32) (len q : Nat) (D : Nat → Vc) (σ : Sg) : Prop := len ≤ 72 ∧ q ≤ 8 ∧ (∀ j, j < len → σ.1 86 j = c j) ∧ (∀ j, len ≤ j → c j = -1) ∧ (∀ j, c j = -1 ∨ ∃ x, x < 256 ∧ c j = nI x) ∧ σ.1 51 0 = nI q ∧ (∀ k u, k < q → u < 5 → σ.1 (52 + 1 + k) u = D k u) ∧ ∀ u, u < 5 → σ.1 104 u = 0
def Jst (len : Nat) (s : Pst) (σ : Sg) : Prop := σ.1 85 2 = nI len ∧ s.1 ≤ len ∧ σ.1 85 3 = nI s.1 ∧ σ.1 85 4 = -9 ∧ σ.1 85 5 = nI s.2.1 ∧ σ.1 85 6 = s.2.2.2 ∧ ∀ j, j < 72 → σ.1 87 j = if s.2.2.1 j = true then 1 else 0
/-- a FAULT was found -/
def Jdd (p : Nat) (σ : Sg) : Prop := σ.1 85 4 = nI p ∧ p ≤ 72
def Rok (len : Nat) (x : Nat ⊕ (Vc × Pst)) (cell : Nat) (τ : Sg) : Prop := match x with
  | .inl p => Jdd p τ
  | .inr a => Jst len a.2 τ ∧ ∀ u, u < 5 → τ.1 cell u = a.1 u
theorem JE_fj {c : Nat → Int32} {len q : Nat} {D : Nat → Vc} {a b : Nat} {σ τ : Sg} (h : JE c len q D σ) (f : FJ a b σ τ) : JE c len q D τ := by
  obtain ⟨h1, h2, h3, h4, h5, h6, h7, h8⟩ := h
  refine ⟨h1, h2, fun j hj => by rw [(f 86 (by omega) (by omega) (by omega) (by omega)).1]; exact h3 j hj, h4, h5, by rw [(f 51 (by omega) (by omega) (by omega) (by omega)).1]; exact h6, fun k u hk hu => by rw [(f (52 + 1 + k) (by omega) (by omega) (by omega) (by omega)).1]; exact h7 k u hk hu, fun u hu => by rw [(f 104 (by omega) (by omega) (by omega) (by omega)).1]; exact h8 u hu⟩
theorem Jst_c {len : Nat} {s : Pst} {σ τ : Sg} (h : Jst len s σ) (h1 : τ.1 85 = σ.1 85) (h2 : τ.1 87 = σ.1 87) : Jst len s τ := by
  unfold Jst at *
  rw [h1, h2]; exact h
theorem Jdd_c {p : Nat} {σ τ : Sg} (h : Jdd p σ) (h1 : τ.1 85 4 = σ.1 85 4) : Jdd p τ := ⟨h1.trans h.1, h.2⟩
theorem ni9 {p : Nat} (hp : p ≤ 72) : ¬ nI p = -9 := fun w => by
  have := (eq_l (a := -9) (b := p) (by omega)).mp w.symm
  rw [show (-9 : Int32).toInt = -9 by decide] at this; omega
theorem jnx {c : Nat → Int32} {len q : Nat} {D : Nat → Vc} {s : Pst} {σ : Sg} (he : JE c len q D σ) (h : Jst len s σ) : j_next_85 σ = some (c s.1, σ) := by
  obtain ⟨h1, h2, h3, h4, _⟩ := he
  obtain ⟨g1, g2, g3, g4, _⟩ := h
  unfold j_next_85 j_next_85_b32 j_next_85_b33
  rw [if_pos g4, g1, g3]
  by_cases e : s.1 < len
  · rw [if_neg (nI_ge e (by omega)), inB_t (by omega) (by omega), gd_t, cl_n (by omega), h3 _ e]
  · rw [if_pos (nI_le (by omega) (by omega)), h4 _ (by omega)]
theorem jnx_d {p : Nat} {σ : Sg} (h : Jdd p σ) : j_next_85 σ = some (-1, σ) := by
  unfold j_next_85 j_next_85_b32 j_next_85_b33
  rw [h.1, if_neg (ni9 h.2)]
theorem c_lt {c : Nat → Int32} {len q : Nat} {D : Nat → Vc} {σ : Sg} (he : JE c len q D σ) {p : Nat} (h : c p ≠ -1) : p < len := by
  rcases Nat.lt_or_ge p len with g | g
  · exact g
  · exact absurd (he.2.2.2.1 p g) h
/-- one place on -/
theorem jgo {len : Nat} {s : Pst} {σ : Sg} (h : Jst len s σ) (hp : s.1 < len) : Jst len (s.1 + 1, s.2) (si σ 85 3 ((σ.1 85 3) + 1)) ∧ FR [85] σ (si σ 85 3 ((σ.1 85 3) + 1)) := by
  obtain ⟨g1, g2, g3, g4, g5, g6, g7⟩ := h
  refine ⟨⟨?_, by show s.1 + 1 ≤ len; omega, ?_, ?_, ?_, ?_, ?_⟩, FR_si (FR_refl _ _) (by decide)⟩
  · rw [si_j (by omega)]; exact g1
  · rw [si_e, g3, nI_1]
  · rw [si_j (by omega)]; exact g4
  · rw [si_j (by omega)]; exact g5
  · rw [si_j (by omega)]; exact g6
  · intro j hj; rw [si_c (by omega)]; exact g7 j hj
theorem jfail {len : Nat} {s : Pst} {σ : Sg} (hl : len ≤ 72) (h : Jst len s σ) : ∃ τ, j_failHere_85 σ = some ((), τ) ∧ FR [85] σ τ ∧ Jdd s.1 τ := by
  obtain ⟨g1, g2, g3, g4, g5, g6, g7⟩ := h
  refine ⟨si σ 85 4 (σ.1 85 3), ?_, FR_si (FR_refl _ _) (by decide), by rw [si_e, g3], by omega⟩
  unfold j_failHere_85 j_failHere_85_b17
  rw [if_pos g4]
theorem jfail_d {p : Nat} {σ : Sg} (h : Jdd p σ) : j_failHere_85 σ = some ((), σ) := by
  unfold j_failHere_85 j_failHere_85_b17
  rw [h.1, if_neg (ni9 h.2)]
theorem jexp {c : Nat → Int32} {len q : Nat} {D : Nat → Vc} {s : Pst} {σ : Sg} (he : JE c len q D σ) (h : Jst len s σ) (x : Int32) (hx : x ≠ -1) : (c s.1 = x ∧ ∃ τ, j_expect_85 x σ = some ((), τ) ∧ FR [85] σ τ ∧ Jst len (s.1 + 1, s.2) τ) ∨ (c s.1 ≠ x ∧ ∃ τ, j_expect_85 x σ = some ((), τ) ∧ FR [85] σ τ ∧ Jdd s.1 τ) := by
  unfold j_expect_85 j_expect_85_b25
  rw [jnx he h, bd_s]
  by_cases e : c s.1 = x
  · obtain ⟨a1, a2⟩ := jgo h (c_lt he (by rw [e]; exact hx))
    exact Or.inl ⟨e, _, by rw [if_pos e], a2, a1⟩
  · obtain ⟨τ, a1, a2, a3⟩ := jfail he.1 h
    exact Or.inr ⟨e, τ, by rw [if_neg e, a1, bd_s], a2, a3⟩
theorem jexp_d {p : Nat} {σ : Sg} (h : Jdd p σ) (x : Int32) : ∃ τ, j_expect_85 x σ = some ((), τ) ∧ FR [85] σ τ ∧ Jdd p τ := by
  unfold j_expect_85 j_expect_85_b25
  rw [jnx_d h, bd_s]
  by_cases e : (-1 : Int32) = x
  · exact ⟨_, by rw [if_pos e], FR_si (FR_refl _ _) (by decide), Jdd_c h (si_j (by omega))⟩
  · exact ⟨σ, by rw [if_neg e, jfail_d h, bd_s], FR_refl _ _, h⟩
theorem jisn {c : Nat → Int32} {len q : Nat} {D : Nat → Vc} {s : Pst} {σ : Sg} (he : JE c len q D σ) (h : Jst len s σ) (x y : Int32) : j_isNext_85 x y σ = some (if c s.1 = x ∨ c s.1 = y then 1 else 0, σ) := by
  unfold j_isNext_85 j_isNext_85_b15 j_isNext_85_b20
  rw [jnx he h, bd_s]
  by_cases e : c s.1 = x
  · rw [if_pos e, if_pos (Or.inl e)]; rfl
  · rw [if_neg e]
    by_cases e2 : c s.1 = y
    · rw [if_pos e2, if_pos (Or.inr e2)]; rfl
    · rw [if_neg e2, if_neg (fun w => w.elim e e2)]; rfl
theorem jisn_d {p : Nat} {σ : Sg} (h : Jdd p σ) (x y : Int32) (hx : (-1 : Int32) ≠ x) (hy : (-1 : Int32) ≠ y) : j_isNext_85 x y σ = some (0, σ) := by
  unfold j_isNext_85 j_isNext_85_b15 j_isNext_85_b20
  rw [jnx_d h, bd_s, if_neg hx, if_neg hy]; rfl
theorem mrk_e {a : Nat} {w : Nat → Bool} : mrk a w a = true := by unfold mrk; rw [if_pos rfl]
theorem mrk_n {a j : Nat} {w : Nat → Bool} (h : j ≠ a) : mrk a w j = w j := by unfold mrk; rw [if_neg h]
theorem jmark {len : Nat} {s : Pst} {σ : Sg} (h : Jst len s σ) {a : Nat} (ha : a ≤ 72) : ∃ τ, j_markWrong_85 (nI a) σ = some ((), τ) ∧ FR [87] σ τ ∧ Jst len (s.1, s.2.1, mrk a s.2.2.1, s.2.2.2) τ := by
  obtain ⟨g1, g2, g3, g4, g5, g6, g7⟩ := h
  unfold j_markWrong_85 j_markWrong_85_b17
  rw [if_neg (nI_pos (by omega))]
  by_cases e : a < 72
  · refine ⟨si σ 87 a 1, ?_, FR_si (FR_refl _ _) (by decide), ?_⟩
    · rw [if_neg (show ¬ (72 : Int32) ≤ nI a from nI_ge (b := 72) e (by decide)), inB_t e (by omega), gd_t, cl_n (by omega)]
    · refine ⟨by rw [si_c (by omega)]; exact g1, g2, by rw [si_c (by omega)]; exact g3, by rw [si_c (by omega)]; exact g4, by rw [si_c (by omega)]; exact g5, by rw [si_c (by omega)]; exact g6, ?_⟩
      intro j hj
      show _ = if mrk a s.2.2.1 j = true then 1 else 0
      by_cases e2 : j = a
      · subst e2; rw [si_e, mrk_e, if_pos rfl]
      · rw [si_j e2, mrk_n e2]; exact g7 j hj
  · refine ⟨σ, ?_, FR_refl _ _, g1, g2, g3, g4, g5, g6, ?_⟩
    · rw [if_pos (show (72 : Int32) ≤ nI a from nI_le (a := 72) (by omega) (by omega))]
    · intro j hj
      show _ = if mrk a s.2.2.1 j = true then 1 else 0
      rw [mrk_n (show j ≠ a by omega)]; exact g7 j hj
theorem jmark_d {p : Nat} {σ : Sg} (h : Jdd p σ) (x : Int32) : ∃ τ, j_markWrong_85 x σ = some ((), τ) ∧ FR [87] σ τ ∧ Jdd p τ := by
  unfold j_markWrong_85 j_markWrong_85_b17
  by_cases e : x < 0
  · exact ⟨σ, by rw [if_pos e], FR_refl _ _, h⟩
  · by_cases e2 : 72 ≤ x
    · exact ⟨σ, by rw [if_neg e, if_pos e2], FR_refl _ _, h⟩
    · refine ⟨si σ 87 x.toNatClampNeg 1, ?_, FR_si (FR_refl _ _) (by decide), Jdd_c h (by rw [si_c (by omega)])⟩
      rcases in_out x (q := 72) (by omega) with o | ⟨k, hk, rfl⟩
      · rcases o with o | o
        · exact absurd o e
        · exact absurd o e2
      · rw [if_neg e, if_neg e2, inB_t hk (by omega), gd_t]
theorem jdig (x : Int32) (σ : Sg) : j_isDigit_s x σ = some (if isD x = true then 1 else 0, σ) := by
  unfold j_isDigit_s j_isDigit_s_b16 j_isDigit_s_b17 isD
  have e1 : (x < 48) ↔ ¬ 48 ≤ x.toInt := by
    have := lt_l (a := x) (b := 48) (by omega)
    rw [show (48 : Int32) = nI 48 from rfl, this]; omega
  have e2 : (57 < x) ↔ ¬ x.toInt ≤ 57 := by
    have := gt_l (a := x) (b := 57) (by omega)
    rw [show (57 : Int32) = nI 57 from rfl, this]; omega
  by_cases g1 : 48 ≤ x.toInt
  · rw [if_neg (fun w => e1.mp w g1), decide_eq_true g1]
    by_cases g2 : x.toInt ≤ 57
    · rw [if_neg (fun w => e2.mp w g2), decide_eq_true g2]; rfl
    · rw [if_pos (e2.mpr g2), decide_eq_false g2]; rfl
  · rw [if_pos (e1.mpr g1), decide_eq_false g1]; rfl
theorem isD_n1 : ¬ isD (-1) = true := by decide
theorem jnum {c : Nat → Int32} {len q : Nat} {D : Nat → Vc} {s : Pst} {σ : Sg} (he : JE c len q D σ) (h : Jst len s σ) : ∃ τ, j_readNumber_85 σ = some ((), τ) ∧ FR [85] σ τ ∧ Jst len (pNum c 3 s.1, s.2) τ := by
  unfold j_readNumber_85
  have key : ∀ n m (p : Nat) (τ : Sg), n ≤ 3 → n < m → FR [85] σ τ → Jst len (p, s.2) τ → ∃ τ', j_readNumber_85_L2 m (nI (3 - n)) τ = some ((), τ') ∧ FR [85] σ τ' ∧ Jst len (pNum c n p, s.2) τ' := by
    intro n
    induction n with
    | zero =>
      intro m p τ _ hm f hs
      obtain ⟨m, rfl⟩ : ∃ k, m = k + 1 := ⟨m - 1, by omega⟩
      refine ⟨τ, ?_, f, hs⟩
      show j_readNumber_85_H2 (j_readNumber_85_L2 m) (nI 3) τ = _
      unfold j_readNumber_85_H2 j_readNumber_85_b33
      rw [if_pos (show (3 : Int32) ≤ nI 3 by decide)]
    | succ n ih =>
      intro m p τ hn hm f hs
      obtain ⟨m, rfl⟩ : ∃ k, m = k + 1 := ⟨m - 1, by omega⟩
      have heτ : JE c len q D τ := JE_fj (a := 0) (b := 0) he (FJ_85 f)
      have st : j_readNumber_85_L2 (m + 1) (nI (3 - (n + 1))) τ = if isD (c p) = true then j_readNumber_85_L2 m (nI (3 - n)) (si τ 85 3 ((τ.1 85 3) + 1)) else some ((), τ) := by
        show j_readNumber_85_H2 (j_readNumber_85_L2 m) _ τ = _
        unfold j_readNumber_85_H2 j_readNumber_85_b33
        rw [if_neg (show ¬ (3 : Int32) ≤ nI (3 - (n + 1)) from nI_ge (b := 3) (by omega) (by decide)), jnx heτ hs, bd_s, jdig, bd_s, nI_1, show 3 - (n + 1) + 1 = 3 - n by omega]
        by_cases g : isD (c p) = true
        · rw [if_pos g, if_pos g, if_neg (by decide)]
        · rw [if_neg g, if_neg g, if_pos rfl]
      rw [st]
      unfold pNum
      by_cases g : isD (c p) = true
      · rw [if_pos g, if_pos g]
        obtain ⟨a1, a2⟩ := jgo hs (c_lt he (fun w => by
          have w' : c p = -1 := w
          rw [w'] at g; exact isD_n1 g))
        exact ih m (p + 1) _ (by omega) (by omega) (FR_trans f a2) a1
      · rw [if_neg g, if_neg g]
        exact ⟨τ, rfl, f, hs⟩
  exact key 3 fu s.1 σ (by omega) (by decide) (FR_refl _ _) h
/-- a power -/
theorem jpow {c : Nat → Int32} {len q : Nat} {D : Nat → Vc} {s : Pst} {σ : Sg} (he : JE c len q D σ) (h : Jst len s σ) : (c s.1 ≠ 94 ∧ j_readPower_85 σ = some (1, σ)) ∨ (c s.1 = 94 ∧ isD (c (pgo c s.1)) = true ∧ ∃ τ, j_readPower_85 σ = some (psg c s.1 * (c (pgo c s.1) - 48), τ) ∧ FR [85] σ τ ∧ Jst len (pgo c s.1 + 1, s.2) τ) ∨ (c s.1 = 94 ∧ ¬ isD (c (pgo c s.1)) = true ∧ ∃ τ, j_readPower_85 σ = some (1, τ) ∧ FR [85] σ τ ∧ Jdd (pgo c s.1) τ) := by
  unfold j_readPower_85
  rw [jnx he h, bd_s]
  by_cases e : c s.1 = 94
  · rw [if_pos e]
    obtain ⟨a1, a2⟩ := jgo h (c_lt he (by rw [e]; decide))
    generalize hτ1 : si σ 85 3 ((σ.1 85 3) + 1) = τ1 at a1 a2
    have he1 : JE c len q D τ1 := JE_fj (a := 0) (b := 0) he (FJ_85 a2)
    rw [jnx he1 a1, bd_s]
    -- from the place of the digit on
    have b44 : ∀ (p : Nat) (v : Int32) (τ : Sg), FR [85] σ τ → Jst len (p, s.2) τ → (isD (c p) = true ∧ ∃ τ', j_readPower_85_b44 v τ = some (v * (c p - 48), τ') ∧ FR [85] σ τ' ∧ Jst len (p + 1, s.2) τ') ∨ (¬ isD (c p) = true ∧ ∃ τ', j_readPower_85_b44 v τ = some (1, τ') ∧ FR [85] σ τ' ∧ Jdd p τ') := by
      intro p v τ f hs
      have heτ : JE c len q D τ := JE_fj (a := 0) (b := 0) he (FJ_85 f)
      unfold j_readPower_85_b44
      rw [jnx heτ hs, bd_s, jdig, bd_s]
      by_cases g : isD (c p) = true
      · obtain ⟨b1, b2⟩ := jgo hs (c_lt he (fun w => by
          have w' : c p = -1 := w
          rw [w'] at g; exact isD_n1 g))
        exact Or.inl ⟨g, _, by rw [if_pos g, if_neg (by decide)], FR_trans f b2, b1⟩
      · obtain ⟨τ', b1, b2, b3⟩ := jfail he.1 hs
        exact Or.inr ⟨g, τ', by rw [if_neg g, if_pos rfl, b1, bd_s], FR_trans f b2, b3⟩
    have hc1 : c (s.1 + 1, s.2).1 = c (s.1 + 1) := rfl
    rw [hc1]
    unfold pgo psg
    by_cases e2 : c (s.1 + 1) = 45
    · rw [if_pos e2, if_pos e2, if_pos e2]
      obtain ⟨d1, d2⟩ := jgo a1 (c_lt he (by rw [hc1, e2]; decide))
      rcases b44 (s.1 + 1 + 1) (-1) _ (FR_trans a2 d2) d1 with ⟨g, x⟩ | ⟨g, x⟩
      · exact Or.inr (Or.inl ⟨e, g, x⟩)
      · exact Or.inr (Or.inr ⟨e, g, x⟩)
    · rw [if_neg e2, if_neg e2, if_neg e2]
      rcases b44 (s.1 + 1) 1 _ a2 a1 with ⟨g, x⟩ | ⟨g, x⟩
      · exact Or.inr (Or.inl ⟨e, g, x⟩)
      · exact Or.inr (Or.inr ⟨e, g, x⟩)
  · exact Or.inl ⟨e, by rw [if_neg e]⟩
theorem jpow_d {p : Nat} {σ : Sg} (h : Jdd p σ) : j_readPower_85 σ = some (1, σ) := by
  unfold j_readPower_85
  rw [jnx_d h, bd_s, if_neg (by decide)]
/-- products put together -/
theorem jtimesL {rs : Int32 → Sg → Option (Unit × Sg)} {o r : Nat} {w : Int32} {σ : Sg} (ho : o < 7) (hr : ck r = 0 ∧ al r = 5) (hne : r ≠ 96 + 1 + o) : ∃ τ, j_readPart_85_L17 rs fu (nI o) r w 0 σ = some ((), τ) ∧ FR [96 + 1 + o] σ τ ∧ ∀ u, u < 5 → τ.1 (96 + 1 + o) u = σ.1 (96 + 1 + o) u + w * σ.1 r u := by
  refine loopE (L := fun m u s => j_readPart_85_L17 rs m (nI o) r w (nI u) s) (N := 5) (P := fun k τ => FR [96 + 1 + o] σ τ ∧ (∀ u, u < k → τ.1 (96 + 1 + o) u = σ.1 (96 + 1 + o) u + w * σ.1 r u) ∧ ∀ u, k ≤ u → τ.1 (96 + 1 + o) u = σ.1 (96 + 1 + o) u) (Q := fun x => ∃ τ, x = some ((), τ) ∧ FR [96 + 1 + o] σ τ ∧ ∀ u, u < 5 → τ.1 (96 + 1 + o) u = σ.1 (96 + 1 + o) u + w * σ.1 r u) ?_ ?_ (by decide) ⟨FR_refl _ _, fun u hu => absurd hu (Nat.not_lt_zero _), fun _ _ => rfl⟩
  · rintro m k τ hk ⟨f, g1, g2⟩
    refine ⟨si τ (96 + 1 + o) k (τ.1 (96 + 1 + o) k + w * τ.1 r k), ?_, FR_si f (FR_0 _), ?_, ?_⟩
    · show j_readPart_85_H17 rs (j_readPart_85_L17 rs m) (nI o) r w (nI k) τ = _
      unfold j_readPart_85_H17
      rw [if_neg (show ¬ (5 : Int32) ≤ nI k from nI_ge (b := 5) hk (by decide)), inB_t ho (by omega), gd_t, cl_n (by omega), cl_n (by omega), ar_prd ho hk, gd_t, ar_t hr.1 hr.2 hk (by omega), gd_t, gd_t, nI_1]
    · intro u hu
      by_cases e : u = k
      · subst e; rw [si_e, g2 u (Nat.le_refl _), FR_i f (FR_1 hne)]
      · rw [si_j e]; exact g1 u (by omega)
    · intro u hu
      rw [si_j (by omega)]; exact g2 u (by omega)
  · rintro m τ ⟨f, g1, g2⟩
    refine ⟨τ, ?_, f, g1⟩
    show j_readPart_85_H17 rs (j_readPart_85_L17 rs m) (nI o) r w (nI 5) τ = _
    unfold j_readPart_85_H17
    rw [if_pos (show (5 : Int32) ≤ nI 5 by decide)]
theorem all5 {P : Nat → Prop} : (∀ u, u < 5 → P u) ↔ P 0 ∧ P 1 ∧ P 2 ∧ P 3 ∧ P 4 := by
  constructor
  · intro h
    exact ⟨h 0 (by omega), h 1 (by omega), h 2 (by omega), h 3 (by omega), h 4 (by omega)⟩
  · rintro ⟨h0, h1, h2, h3, h4⟩ u hu
    rcases lt5 hu with rfl | rfl | rfl | rfl | rfl <;> assumption
theorem zv_iff {v : Vc} : zv v = true ↔ ∀ u, u < 5 → v u = 0 := by
  unfold zv
  rw [all5]
  simp only [Bool.and_eq_true, decide_eq_true_eq, and_assoc]
theorem eqv_iff {v w : Vc} : eqv v w = true ↔ ∀ u, u < 5 → v u = w u := by
  unfold eqv
  rw [all5]
  simp only [Bool.and_eq_true, decide_eq_true_eq, and_assoc]
theorem jpure_x {r : Nat} {σ : Sg} (hr : ck r = 0 ∧ al r = 5) : j_isPure_x r σ = some (if zv (σ.1 r) = true then 1 else 0, σ) := by
  unfold j_isPure_x
  rw [show ckB r = true by unfold ckB; rw [hr.1]; rfl, gd_t, hr.2]
  refine loopQ (fun n u (_ : Unit) => j_isPure_x_L7 n r (nI 5) (nI u) σ) 5 (fun u _ => ∀ j, j < u → σ.1 r j = 0) (fun x => x = some (if zv (σ.1 r) = true then 1 else 0, σ)) ?_ ?_ 5 fu 0 () (by omega) (by decide) (fun j h => absurd h (Nat.not_lt_zero _))
  · rintro n u _ hu g
    have st : j_isPure_x_L7 (n + 1) r (nI 5) (nI u) σ = if σ.1 r u = 0 then j_isPure_x_L7 n r (nI 5) (nI (u + 1)) σ else some (0, σ) := by
      show j_isPure_x_H7 (j_isPure_x_L7 n) r (nI 5) (nI u) σ = _
      unfold j_isPure_x_H7
      rw [if_neg (nI_ge hu (by omega)), ar_t hr.1 hr.2 hu (by omega), gd_t, cl_n (by omega), nI_1]
    by_cases e : σ.1 r u = 0
    · refine Or.inl ⟨(), by rw [st, if_pos e], fun j hj => ?_⟩
      by_cases e2 : j = u
      · subst e2; exact e
      · exact g j (by omega)
    · refine Or.inr ?_
      rw [st, if_neg e, if_neg (fun w => e (zv_iff.mp w u hu))]
  · rintro n _ g
    show j_isPure_x_H7 (j_isPure_x_L7 n) r (nI 5) (nI 5) σ = _
    unfold j_isPure_x_H7
    rw [if_pos (nI_le (by omega) (by omega)), if_pos (zv_iff.mpr g)]
theorem jsame_x {a b : Nat} {σ : Sg} (ha : ck a = 0 ∧ al a = 5) (hb : ck b = 0 ∧ al b = 5) : j_same_x_x a b σ = some (if eqv (σ.1 a) (σ.1 b) = true then 1 else 0, σ) := by
  unfold j_same_x_x
  refine loopQ (fun n u (_ : Unit) => j_same_x_x_L2 n a b (nI u) σ) 5 (fun u _ => ∀ j, j < u → σ.1 a j = σ.1 b j) (fun x => x = some (if eqv (σ.1 a) (σ.1 b) = true then 1 else 0, σ)) ?_ ?_ 5 fu 0 () (by omega) (by decide) (fun j h => absurd h (Nat.not_lt_zero _))
  · rintro n u _ hu g
    have st : j_same_x_x_L2 (n + 1) a b (nI u) σ = if σ.1 a u = σ.1 b u then j_same_x_x_L2 n a b (nI (u + 1)) σ else some (0, σ) := by
      show j_same_x_x_H2 (j_same_x_x_L2 n) a b (nI u) σ = _
      unfold j_same_x_x_H2
      rw [if_neg (show ¬ (5 : Int32) ≤ nI u from nI_ge (b := 5) hu (by decide)), ar_t ha.1 ha.2 hu (by omega), gd_t, ar_t hb.1 hb.2 hu (by omega), gd_t, cl_n (by omega), nI_1]
    by_cases e : σ.1 a u = σ.1 b u
    · refine Or.inl ⟨(), by rw [st, if_pos e], fun j hj => ?_⟩
      by_cases e2 : j = u
      · subst e2; exact e
      · exact g j (by omega)
    · refine Or.inr ?_
      rw [st, if_neg e, if_neg (fun w => e (eqv_iff.mp w u hu))]
  · rintro n _ g
    show j_same_x_x_H2 (j_same_x_x_L2 n) a b (nI 5) σ = _
    unfold j_same_x_x_H2
    rw [if_pos (show (5 : Int32) ≤ nI 5 by decide), if_pos (eqv_iff.mpr g)]
theorem jsame_ab (σ : Sg) : j_same_105_106 σ = some (if eqv (σ.1 105) (σ.1 106) = true then 1 else 0, σ) := by
  unfold j_same_105_106
  refine loopQ (fun n u (_ : Unit) => j_same_105_106_L2 n (nI u) σ) 5 (fun u _ => ∀ j, j < u → σ.1 105 j = σ.1 106 j) (fun x => x = some (if eqv (σ.1 105) (σ.1 106) = true then 1 else 0, σ)) ?_ ?_ 5 fu 0 () (by omega) (by decide) (fun j h => absurd h (Nat.not_lt_zero _))
  · rintro n u _ hu g
    have st : j_same_105_106_L2 (n + 1) (nI u) σ = if σ.1 105 u = σ.1 106 u then j_same_105_106_L2 n (nI (u + 1)) σ else some (0, σ) := by
      show j_same_105_106_H2 (j_same_105_106_L2 n) (nI u) σ = _
      unfold j_same_105_106_H2
      rw [if_neg (show ¬ (5 : Int32) ≤ nI u from nI_ge (b := 5) hu (by decide)), inB_t hu (by omega), gd_t, gd_t, cl_n (by omega), nI_1]
    by_cases e : σ.1 105 u = σ.1 106 u
    · refine Or.inl ⟨(), by rw [st, if_pos e], fun j hj => ?_⟩
      by_cases e2 : j = u
      · subst e2; exact e
      · exact g j (by omega)
    · refine Or.inr ?_
      rw [st, if_neg e, if_neg (fun w => e (eqv_iff.mp w u hu))]
  · rintro n _ g
    show j_same_105_106_H2 (j_same_105_106_L2 n) (nI 5) σ = _
    unfold j_same_105_106_H2
    rw [if_pos (show (5 : Int32) ≤ nI 5 by decide), if_pos (eqv_iff.mpr g)]
