/-! ===== PURE: the reference goes through parts, terms, sums ===== -/
theorem gmul {rs : Int32 → Sg → Option (Unit × Sg)} {l : Nat} {w : Int32} {σ : Sg} (hl : l < 40) : ∃ τ, m_part_117_L80 rs fu (nI l) w 0 σ = some ((), τ) ∧ FR [132] σ τ ∧ FG l σ τ ∧ ∀ u, u < 5 → τ.1 132 (5 * l + u) = σ.1 132 (5 * l + u) * w := by
  refine loopE (L := fun m u s => m_part_117_L80 rs m (nI l) w (nI u) s) (N := 5) (P := fun i τ => FR [132] σ τ ∧ FG l σ τ ∧ (∀ u, u < i → τ.1 132 (5 * l + u) = σ.1 132 (5 * l + u) * w) ∧ ∀ u, i ≤ u → τ.1 132 (5 * l + u) = σ.1 132 (5 * l + u)) (Q := fun r => ∃ τ, r = some ((), τ) ∧ FR [132] σ τ ∧ FG l σ τ ∧ ∀ u, u < 5 → τ.1 132 (5 * l + u) = σ.1 132 (5 * l + u) * w) ?_ ?_ (by decide) ⟨FR_refl _ _, FG_refl _ _, fun u hu => absurd hu (Nat.not_lt_zero _), fun _ _ => rfl⟩
  · rintro m i τ hi ⟨f, g, e1, e2⟩
    refine ⟨si τ 132 (5 * l + i) (τ.1 132 (5 * l + i) * w), ?_, FR_si f (by decide), FG_trans g (FG_32 (by omega)), ?_, ?_⟩
    · show m_part_117_H80 rs (m_part_117_L80 rs m) (nI l) w (nI i) τ = _
      unfold m_part_117_H80
      rw [if_neg (show ¬ (5 : Int32) ≤ nI i from nI_ge (b := 5) hi (by decide)), i5l, inB_t (by omega) (by omega), gd_t, gd_t, cl_n (by omega), nI_1]
    · intro u hu
      by_cases e : u = i
      · subst e; rw [si_e, e2 u (Nat.le_refl _)]
      · rw [si_j (by omega)]; exact e1 u (by omega)
    · intro u hu
      rw [si_j (by omega)]; exact e2 u (by omega)
  · rintro m τ ⟨f, g, e1, e2⟩
    refine ⟨τ, ?_, f, g, e1⟩
    show m_part_117_H80 rs (m_part_117_L80 rs m) (nI l) w (nI 5) τ = _
    unfold m_part_117_H80
    rw [if_pos (show (5 : Int32) ≤ nI 5 by decide)]
theorem gpart {c : Nat → Int32} {len q L l : Nat} {D : Nat → Vc} {b : Bool} {prs : Pst → Nat ⊕ (Vc × Pst)} {rs : Int32 → Sg → Option (Unit × Sg)} {s : Pst} {a : Vc × Pst} {σ : Sg} (hR : GsOk c len q D prs rs L) (hl : l ≤ L) (hx : pPart c q D b prs s = .inr a) (hd : ¬ isD (c a.2.1) = true) (he : GE c len q D σ) (h : Gst len s σ) : Gok len l a (m_part_117 rs (nI l) σ) σ := by
  have hL := hR.1
  unfold pPart at hx
  obtain ⟨e, i1, i2⟩ := pbd_i hx
  unfold m_part_117
  by_cases g : c e.2.1 = 94
  · rw [if_pos g] at i2
    obtain ⟨j2, i3⟩ := ite_r i2
    subst i3
    obtain ⟨τ1, y1, y2, y3, y4⟩ := gatom hR hl i1 (isD_94 g) he h
    have he1 := GE_fg he y2
    obtain ⟨a1, a2⟩ := ggo l y3 (gc_lt he (by rw [g]; decide))
    rw [y1, bd_s, gsign he1 y3, bd_s, if_pos g]
    have hz : ∀ u, u < 5 → (si τ1 117 23 ((τ1.1 117 23) + 1)).1 132 (5 * l + u) = e.1 u := fun u hu => by rw [si_c (by omega)]; exact y4 u hu
    generalize hτ2 : si τ1 117 23 ((τ1.1 117 23) + 1) = τ2 at a1 a2 hz
    have f2 := FG_trans y2 a2
    have he2 := GE_fg he f2
    rw [gsign he2 a1, bd_s]
    have h23 : τ2.1 117 23 = nI (e.2.1 + 1) := a1.2.1
    -- from the digit on
    have b54 : ∀ (p : Nat) (v s1 s2 : Int32) (ρ : Sg), FG l σ ρ → (∀ u, u < 5 → ρ.1 132 (5 * l + u) = e.1 u) → Gst len (p, e.2.2) (si ρ 117 23 (s1 + s2)) → isD (c p) = true → ∃ τ, m_part_117_b54 rs (nI l) v s1 s2 ρ = some ((), τ) ∧ FG l σ τ ∧ Gst len (p + 1, e.2.2) τ ∧ ∀ u, u < 5 → τ.1 132 (5 * l + u) = e.1 u * (v * (c p - 48)) := by
      intro p v s1 s2 ρ f hv hs hdp
      have f' : FG l σ (si ρ 117 23 (s1 + s2)) := FG_trans f (FG_17 (Or.inl rfl))
      have he' := GE_fg he f'
      obtain ⟨d1, d2⟩ := ggo l hs (gc_lt he (show c (p, e.2.2).1 ≠ -1 from fun w => by
        have w' : c p = -1 := w
        rw [w'] at hdp; exact isD_n1 hdp))
      unfold m_part_117_b54
      rw [gsign he' hs, bd_s]
      have hv' : ∀ u, u < 5 → (si (si ρ 117 23 (s1 + s2)) 117 23 (((si ρ 117 23 (s1 + s2)).1 117 23) + 1)).1 132 (5 * l + u) = e.1 u := fun u hu => by rw [si_c (by omega), si_c (by omega)]; exact hv u hu
      generalize hτ3 : si (si ρ 117 23 (s1 + s2)) 117 23 (((si ρ 117 23 (s1 + s2)).1 117 23) + 1) = τ3 at d1 d2 hv'
      obtain ⟨τ4, z1, z2, z3, z4⟩ := gmul (rs := rs) (l := l) (w := v * (c (p, e.2.2).1 - 48)) (σ := τ3) (by omega)
      exact ⟨τ4, z1, FG_trans f' (FG_trans d2 z3), Gst_32 d1 z2, fun u hu => by rw [z4 u hu, hv' u hu]⟩
    have hc1 : c (e.2.1 + 1, e.2.2).1 = c (e.2.1 + 1) := rfl
    rw [hc1]
    by_cases g3 : c (e.2.1 + 1) = 45
    · have e1 : pgo c e.2.1 = e.2.1 + 1 + 1 := by unfold pgo; rw [if_pos g3]
      have e2 : psg c e.2.1 = -1 := by unfold psg; rw [if_pos g3]
      rw [if_pos g3]
      unfold m_part_117_b39
      rw [if_neg (by decide), h23]
      rw [e1] at j2
      obtain ⟨d1, _⟩ := ggo l a1 (gc_lt he (by rw [hc1, g3]; decide))
      rw [h23] at d1
      obtain ⟨τ, z1, z2, z3, z4⟩ := b54 (e.2.1 + 1 + 1) (-1) (nI (e.2.1 + 1)) 1 τ2 f2 hz d1 j2
      refine ⟨τ, z1, z2, ?_, fun u hu => ?_⟩
      · show Gst len (pgo c e.2.1 + 1, e.2.2) τ
        rw [e1]; exact z3
      · show _ = e.1 u * (psg c e.2.1 * (c (pgo c e.2.1) - 48))
        rw [e1, e2]; exact z4 u hu
    · have e1 : pgo c e.2.1 = e.2.1 + 1 := by unfold pgo; rw [if_neg g3]
      have e2 : psg c e.2.1 = 1 := by unfold psg; rw [if_neg g3]
      rw [if_neg g3]
      unfold m_part_117_b39
      rw [if_pos (by decide), h23]
      rw [e1] at j2
      have d1 : Gst len (e.2.1 + 1, e.2.2) (si τ2 117 23 (nI (e.2.1 + 1) + 0)) := by
        obtain ⟨k1, k2, k3, k4⟩ := a1
        exact ⟨k1, by rw [si_e, Int32.add_zero], by rw [si_j (by omega)]; exact k3, fun j hj => by rw [si_c (by omega)]; exact k4 j hj⟩
      obtain ⟨τ, z1, z2, z3, z4⟩ := b54 (e.2.1 + 1) 1 (nI (e.2.1 + 1)) 0 τ2 f2 hz d1 j2
      refine ⟨τ, z1, z2, ?_, fun u hu => ?_⟩
      · show Gst len (pgo c e.2.1 + 1, e.2.2) τ
        rw [e1]; exact z3
      · show _ = e.1 u * (psg c e.2.1 * (c (pgo c e.2.1) - 48))
        rw [e1, e2]; exact z4 u hu
  · rw [if_neg g] at i2
    injection i2 with i2
    subst i2
    obtain ⟨τ1, y1, y2, y3, y4⟩ := gatom hR hl i1 hd he h
    rw [y1, bd_s, gsign (GE_fg he y2) y3, bd_s, if_neg g]
    exact ⟨τ1, rfl, y2, y3, y4⟩
theorem gadd {rs : Int32 → Sg → Option (Unit × Sg)} {k5 : Int32 → Sg → Option (Unit × Sg)} {l : Nat} {w : Int32} {σ : Sg} (hl : l < 39) : ∃ τ, m_term_117_L57 rs k5 fu (nI l) w 0 σ = k5 (nI l) τ ∧ FR [132] σ τ ∧ FG l σ τ ∧ ∀ u, u < 5 → τ.1 132 (5 * l + u) = σ.1 132 (5 * l + u) + w * σ.1 132 (5 * (l + 1) + u) := by
  refine loopE (L := fun m u s => m_term_117_L57 rs k5 m (nI l) w (nI u) s) (N := 5) (P := fun i τ => FR [132] σ τ ∧ FG l σ τ ∧ (∀ u, u < i → τ.1 132 (5 * l + u) = σ.1 132 (5 * l + u) + w * σ.1 132 (5 * (l + 1) + u)) ∧ ∀ u, i ≤ u → τ.1 132 (5 * l + u) = σ.1 132 (5 * l + u)) (Q := fun r => ∃ τ, r = k5 (nI l) τ ∧ FR [132] σ τ ∧ FG l σ τ ∧ ∀ u, u < 5 → τ.1 132 (5 * l + u) = σ.1 132 (5 * l + u) + w * σ.1 132 (5 * (l + 1) + u)) ?_ ?_ (by decide) ⟨FR_refl _ _, FG_refl _ _, fun u hu => absurd hu (Nat.not_lt_zero _), fun _ _ => rfl⟩
  · rintro m i τ hi ⟨f, g, e1, e2⟩
    refine ⟨si τ 132 (5 * l + i) (τ.1 132 (5 * l + i) + w * τ.1 132 (5 * (l + 1) + i)), ?_, FR_si f (by decide), FG_trans g (FG_32 (by omega)), ?_, ?_⟩
    · show m_term_117_H57 rs k5 (m_term_117_L57 rs k5 m) (nI l) w (nI i) τ = _
      unfold m_term_117_H57
      rw [if_neg (show ¬ (5 : Int32) ≤ nI i from nI_ge (b := 5) hi (by decide)), nI_1, i5l, i5l, inB_t (by omega) (by omega), gd_t, inB_t (by omega) (by omega), gd_t, gd_t, cl_n (by omega), cl_n (by omega), nI_1]
    · intro u hu
      by_cases e : u = i
      · subst e
        rw [si_e, e2 u (Nat.le_refl _), show 5 * (l + 1) + u = 5 * l + (5 + u) by omega, e2 (5 + u) (by omega)]
      · rw [si_j (by omega)]; exact e1 u (by omega)
    · intro u hu
      rw [si_j (by omega)]; exact e2 u (by omega)
  · rintro m τ ⟨f, g, e1, e2⟩
    refine ⟨τ, ?_, f, g, e1⟩
    show m_term_117_H57 rs k5 (m_term_117_L57 rs k5 m) (nI l) w (nI 5) τ = _
    unfold m_term_117_H57
    rw [if_pos (show (5 : Int32) ≤ nI 5 by decide)]
theorem pTermL_nd {c : Nat → Int32} {q : Nat} {D : Nat → Vc} {b : Bool} {prs : Pst → Nat ⊕ (Vc × Pst)} {n : Nat} {v : Vc} {s : Pst} {a : Vc × Pst} (h : pTermL c q D b prs n v s = .inr a) (hd : ¬ isD (c a.2.1) = true) : ¬ isD (c s.1) = true := by
  cases n with
  | zero =>
    unfold pTermL at h
    injection h with h
    subst h
    exact hd
  | succ n =>
    unfold pTermL at h
    by_cases g : c s.1 = 42 ∨ c s.1 = 47
    · exact isD_mul g
    · rw [if_neg g] at h
      injection h with h
      subst h
      exact hd
theorem pSumL_nd {c : Nat → Int32} {q : Nat} {D : Nat → Vc} {b : Bool} {prs : Pst → Nat ⊕ (Vc × Pst)} {n : Nat} {v : Vc} {s : Pst} {a : Vc × Pst} (h : pSumL c q D b prs n v s = .inr a) (hd : ¬ isD (c a.2.1) = true) : ¬ isD (c s.1) = true := by
  cases n with
  | zero =>
    unfold pSumL at h
    injection h with h
    subst h
    exact hd
  | succ n =>
    unfold pSumL at h
    by_cases g : c s.1 = 43 ∨ c s.1 = 45
    · exact isD_add g
    · rw [if_neg g] at h
      injection h with h
      subst h
      exact hd
theorem gtermL {c : Nat → Int32} {len q L l : Nat} {D : Nat → Vc} {b : Bool} {prs : Pst → Nat ⊕ (Vc × Pst)} {rs : Int32 → Sg → Option (Unit × Sg)} (hR : GsOk c len q D prs rs L) (hl : l + 1 ≤ L) : ∀ n m (v : Vc) (s : Pst) (a : Vc × Pst) (σ : Sg), 72 ≤ s.1 + n → n < m → pTermL c q D b prs n v s = .inr a → ¬ isD (c a.2.1) = true → GE c len q D σ → Gst len s σ → (∀ u, u < 5 → σ.1 132 (5 * l + u) = v u) → Gok len l a (m_term_117_L5 rs m (nI l) σ) σ := by
  have hL := hR.1
  intro n
  induction n with
  | zero =>
    intro m v s a σ hn hm hx hd he h hv
    obtain ⟨m, rfl⟩ : ∃ k, m = k + 1 := ⟨m - 1, by omega⟩
    unfold pTermL at hx
    injection hx with hx
    subst hx
    have hlen := he.1
    refine ⟨σ, ?_, FG_refl _ _, h, hv⟩
    show m_term_117_H5 rs (m_term_117_L5 rs m) (nI l) σ = _
    unfold m_term_117_H5
    rw [gsign he h, bd_s, he.2.2.2.2.1 s.1 (by omega), if_neg (by decide), gsign he h, bd_s, he.2.2.2.2.1 s.1 (by omega), if_neg (by decide)]
  | succ n ih =>
    intro m v s a σ hn hm hx hd he h hv
    obtain ⟨m, rfl⟩ : ∃ k, m = k + 1 := ⟨m - 1, by omega⟩
    have st : m_term_117_L5 rs (m + 1) (nI l) σ = if c s.1 = 42 ∨ c s.1 = 47 then bd (m_part_117 rs (nI (l + 1)) (si σ 117 23 ((σ.1 117 23) + 1))) (fun _ σ1 => m_term_117_L57 rs (m_term_117_L5 rs m) fu (nI l) (if c s.1 = 42 then 1 else -1) 0 σ1) else some ((), σ) := by
      show m_term_117_H5 rs (m_term_117_L5 rs m) (nI l) σ = _
      unfold m_term_117_H5 m_term_117_b23 m_term_117_b37
      rw [gsign he h, bd_s, nI_1]
      by_cases g : c s.1 = 42
      · rw [if_pos g, if_pos (Or.inl g), gsign he h, bd_s, if_pos g, if_pos g]
      · rw [if_neg g, gsign he h, bd_s]
        by_cases g2 : c s.1 = 47
        · rw [if_pos g2, if_pos (Or.inr g2), gsign he h, bd_s, if_neg g, if_neg g]
        · rw [if_neg g2, if_neg (fun w => w.elim g g2)]
    rw [st]
    unfold pTermL at hx
    by_cases g : c s.1 = 42 ∨ c s.1 = 47
    · rw [if_pos g] at hx ⊢
      obtain ⟨e, i1, i2⟩ := pbd_i hx
      have hM := hR.2.1
      have hlt : s.1 + 1 < e.2.1 := (pPart_M hM i1).1
      obtain ⟨a1, a2⟩ := ggo (l + 1) h (gc_lt he (fun w => by
        rw [w] at g
        rcases g with g | g
        · exact absurd g (by decide)
        · exact absurd g (by decide)))
      have hv1 : ∀ u, u < 5 → (si σ 117 23 ((σ.1 117 23) + 1)).1 132 (5 * l + u) = v u := fun u hu => by rw [si_c (by omega)]; exact hv u hu
      generalize hτ1 : si σ 117 23 ((σ.1 117 23) + 1) = τ1 at a1 a2 hv1
      obtain ⟨τ2, y1, y2, y3, y4⟩ := gpart hR hl i1 (pTermL_nd i2 hd) (GE_fg he a2) a1
      have f2 : FG l σ τ2 := FG_mono (FG_trans a2 y2) (by omega)
      have hv2 : ∀ u, u < 5 → τ2.1 132 (5 * l + u) = v u := fun u hu => by rw [y2.2.2.2 _ (by omega)]; exact hv1 u hu
      obtain ⟨τ3, z1, z2, z3, z4⟩ := gadd (rs := rs) (k5 := m_term_117_L5 rs m) (l := l) (w := if c s.1 = 42 then 1 else -1) (σ := τ2) (by omega)
      have f3 := FG_trans f2 z3
      rw [y1, bd_s, z1]
      obtain ⟨τ4, u1, u2, u3, u4⟩ := ih m _ e.2 a τ3 (by omega) (by omega) i2 hd (GE_fg he f3) (Gst_32 y3 z2) (fun u hu => by rw [z4 u hu, hv2 u hu, y4 u hu])
      exact ⟨τ4, u1, FG_trans f3 u2, u3, u4⟩
    · rw [if_neg g] at hx ⊢
      injection hx with hx
      subst hx
      exact ⟨σ, rfl, FG_refl _ _, h, hv⟩
theorem gterm {c : Nat → Int32} {len q L l : Nat} {D : Nat → Vc} {b : Bool} {prs : Pst → Nat ⊕ (Vc × Pst)} {rs : Int32 → Sg → Option (Unit × Sg)} {s : Pst} {a : Vc × Pst} {σ : Sg} (hR : GsOk c len q D prs rs L) (hl : l + 1 ≤ L) (hx : pTerm c q D b prs s = .inr a) (hd : ¬ isD (c a.2.1) = true) (he : GE c len q D σ) (h : Gst len s σ) : Gok len l a (m_term_117 rs (nI l) σ) σ := by
  unfold pTerm at hx
  obtain ⟨e, i1, i2⟩ := pbd_i hx
  have h' : Gst len (s.1, s.2.1 + 1, s.2.2) σ := h
  obtain ⟨τ1, y1, y2, y3, y4⟩ := gpart hR (show l ≤ L by omega) i1 (pTermL_nd i2 hd) he h'
  unfold m_term_117
  rw [y1, bd_s]
  obtain ⟨τ4, u1, u2, u3, u4⟩ := gtermL hR hl 72 fu _ e.2 a τ1 (by omega) (by decide) i2 hd (GE_fg he y2) y3 y4
  exact ⟨τ4, u1, FG_trans y2 u2, u3, u4⟩
/-- equal so far -/
def eqk (σ : Sg) (l : Nat) : Nat → Bool
  | 0 => true
  | k + 1 => eqk σ l k && decide (σ.1 132 (5 * l + k) = σ.1 132 (5 * (l + 1) + k))
theorem eqk_iff {σ : Sg} {l : Nat} : ∀ k, eqk σ l k = true ↔ ∀ u, u < k → σ.1 132 (5 * l + u) = σ.1 132 (5 * (l + 1) + u)
  | 0 => ⟨fun _ u hu => absurd hu (Nat.not_lt_zero _), fun _ => rfl⟩
  | k + 1 => by
    have ih := eqk_iff (σ := σ) (l := l) k
    show (eqk σ l k && decide _) = true ↔ _
    rw [Bool.and_eq_true, ih, decide_eq_true_eq]
    constructor
    · rintro ⟨h1, h2⟩ u hu
      by_cases e : u = k
      · rw [e]; exact h2
      · exact h1 u (by omega)
    · intro h
      exact ⟨fun u hu => h u (by omega), h k (by omega)⟩
theorem mrk2 {a : Nat} {w : Nat → Bool} : mrk a (mrk a w) = mrk a w := by
  funext j
  by_cases e : j = a
  · subst e; rw [mrk_e, mrk_e]
  · rw [mrk_n e]
theorem gcmp {rs : Int32 → Sg → Option (Unit × Sg)} {k5 : Int32 → Sg → Option (Unit × Sg)} {len l a : Nat} {s : Pst} {σ : Sg} (hl : l < 39) (ha : a < 72) (h : Gst len s σ) : ∃ τ, m_sum_117_L47 rs k5 fu (nI l) (nI a) 0 σ = k5 (nI l) τ ∧ FR [134] σ τ ∧ FG l σ τ ∧ Gst len (s.1, s.2.1, (if eqk σ l 5 = true then s.2.2.1 else mrk a s.2.2.1), s.2.2.2) τ := by
  refine loopE (L := fun m u s => m_sum_117_L47 rs k5 m (nI l) (nI a) (nI u) s) (N := 5) (P := fun i τ => FR [134] σ τ ∧ FG l σ τ ∧ Gst len (s.1, s.2.1, (if eqk σ l i = true then s.2.2.1 else mrk a s.2.2.1), s.2.2.2) τ) (Q := fun r => ∃ τ, r = k5 (nI l) τ ∧ FR [134] σ τ ∧ FG l σ τ ∧ Gst len (s.1, s.2.1, (if eqk σ l 5 = true then s.2.2.1 else mrk a s.2.2.1), s.2.2.2) τ) ?_ ?_ (by decide) ⟨FR_refl _ _, FG_refl _ _, h⟩
  · rintro m i τ hi ⟨f, g, e⟩
    have e132 : τ.1 132 = σ.1 132 := FR_i f (by decide)
    refine ⟨si τ 134 a (((τ.1 134 a) ||| (if decide (σ.1 132 (5 * l + i) = σ.1 132 (5 * (l + 1) + i)) = true then 0 else 1)) &&& 1), ?_, FR_si f (by decide), FG_trans g FG_34, ?_⟩
    · show m_sum_117_H47 rs k5 (m_sum_117_L47 rs k5 m) (nI l) (nI a) (nI i) τ = _
      unfold m_sum_117_H47 m_sum_117_b89
      rw [if_neg (show ¬ (5 : Int32) ≤ nI i from nI_ge (b := 5) hi (by decide)), inB_t ha (by omega), gd_t, nI_1, i5l, i5l, inB_t (by omega) (by omega), gd_t, inB_t (by omega) (by omega), gd_t, cl_n (by omega), cl_n (by omega), cl_n (by omega), gd_t, gd_t, nI_1, e132]
      by_cases g : σ.1 132 (5 * l + i) = σ.1 132 (5 * (l + 1) + i)
      · rw [if_pos g, decide_eq_true g, if_pos rfl]
      · rw [if_neg g, decide_eq_false g, if_neg (by decide)]
    · have w := gmark e ha (decide (σ.1 132 (5 * l + i) = σ.1 132 (5 * (l + 1) + i)))
      have e2 : (if decide (σ.1 132 (5 * l + i) = σ.1 132 (5 * (l + 1) + i)) = true then (if eqk σ l i = true then s.2.2.1 else mrk a s.2.2.1) else mrk a (if eqk σ l i = true then s.2.2.1 else mrk a s.2.2.1)) = (if eqk σ l (i + 1) = true then s.2.2.1 else mrk a s.2.2.1) := by
        show _ = (if (eqk σ l i && decide _) = true then s.2.2.1 else mrk a s.2.2.1)
        cases decide (σ.1 132 (5 * l + i) = σ.1 132 (5 * (l + 1) + i)) <;> cases eqk σ l i <;> simp [mrk2]
      have w' : Gst len (s.1, s.2.1, (if decide (σ.1 132 (5 * l + i) = σ.1 132 (5 * (l + 1) + i)) = true then (if eqk σ l i = true then s.2.2.1 else mrk a s.2.2.1) else mrk a (if eqk σ l i = true then s.2.2.1 else mrk a s.2.2.1)), s.2.2.2) (si τ 134 a (((τ.1 134 a) ||| (if decide (σ.1 132 (5 * l + i) = σ.1 132 (5 * (l + 1) + i)) = true then 0 else 1)) &&& 1)) := w
      rw [e2] at w'
      exact w'
  · rintro m τ ⟨f, g, e⟩
    refine ⟨τ, ?_, f, g, e⟩
    show m_sum_117_H47 rs k5 (m_sum_117_L47 rs k5 m) (nI l) (nI a) (nI 5) τ = _
    unfold m_sum_117_H47
    rw [if_pos (show (5 : Int32) ≤ nI 5 by decide)]
theorem gsumL {c : Nat → Int32} {len q L l : Nat} {D : Nat → Vc} {b : Bool} {prs : Pst → Nat ⊕ (Vc × Pst)} {rs : Int32 → Sg → Option (Unit × Sg)} (hR : GsOk c len q D prs rs L) (hl : l + 2 ≤ L) : ∀ n m (v : Vc) (s : Pst) (a : Vc × Pst) (σ : Sg), 72 ≤ s.1 + n → n < m → pSumL c q D b prs n v s = .inr a → ¬ isD (c a.2.1) = true → GE c len q D σ → Gst len s σ → (∀ u, u < 5 → σ.1 132 (5 * l + u) = v u) → Gok len l a (m_sum_117_L5 rs m (nI l) σ) σ := by
  have hL := hR.1
  intro n
  induction n with
  | zero =>
    intro m v s a σ hn hm hx hd he h hv
    obtain ⟨m, rfl⟩ : ∃ k, m = k + 1 := ⟨m - 1, by omega⟩
    unfold pSumL at hx
    injection hx with hx
    subst hx
    have hlen := he.1
    refine ⟨σ, ?_, FG_refl _ _, h, hv⟩
    show m_sum_117_H5 rs (m_sum_117_L5 rs m) (nI l) σ = _
    unfold m_sum_117_H5
    rw [gsign he h, bd_s, he.2.2.2.2.1 s.1 (by omega), if_neg (by decide), gsign he h, bd_s, he.2.2.2.2.1 s.1 (by omega), if_neg (by decide)]
  | succ n ih =>
    intro m v s a σ hn hm hx hd he h hv
    obtain ⟨m, rfl⟩ : ∃ k, m = k + 1 := ⟨m - 1, by omega⟩
    have st : m_sum_117_L5 rs (m + 1) (nI l) σ = if c s.1 = 43 ∨ c s.1 = 45 then bd (m_term_117 rs (nI (l + 1)) (si σ 117 23 ((σ.1 117 23) + 1))) (fun _ σ1 => m_sum_117_L47 rs (m_sum_117_L5 rs m) fu (nI l) ((si σ 117 23 ((σ.1 117 23) + 1)).1 117 23) 0 σ1) else some ((), σ) := by
      show m_sum_117_H5 rs (m_sum_117_L5 rs m) (nI l) σ = _
      unfold m_sum_117_H5 m_sum_117_b23
      rw [gsign he h, bd_s, nI_1]
      by_cases g : c s.1 = 43
      · rw [if_pos g, if_pos (Or.inl g)]
      · rw [if_neg g, gsign he h, bd_s]
        by_cases g2 : c s.1 = 45
        · rw [if_pos g2, if_pos (Or.inr g2)]
        · rw [if_neg g2, if_neg (fun w => w.elim g g2)]
    rw [st]
    unfold pSumL at hx
    by_cases g : c s.1 = 43 ∨ c s.1 = 45
    · rw [if_pos g] at hx ⊢
      obtain ⟨e, i1, i2⟩ := pbd_i hx
      have hM := hR.2.1
      have hlt : s.1 + 1 < e.2.1 := (pTerm_M hM i1).1
      obtain ⟨a1, a2⟩ := ggo (l + 1) h (gc_lt he (fun w => by
        rw [w] at g
        rcases g with g | g
        · exact absurd g (by decide)
        · exact absurd g (by decide)))
      have hv1 : ∀ u, u < 5 → (si σ 117 23 ((σ.1 117 23) + 1)).1 132 (5 * l + u) = v u := fun u hu => by rw [si_c (by omega)]; exact hv u hu
      generalize hτ1 : si σ 117 23 ((σ.1 117 23) + 1) = τ1 at a1 a2 hv1
      have h23 : τ1.1 117 23 = nI (s.1 + 1) := a1.2.1
      obtain ⟨τ2, y1, y2, y3, y4⟩ := gterm hR (show (l + 1) + 1 ≤ L by omega) i1 (show ¬ isD (c e.2.1) = true from pSumL_nd (s := (e.2.1, e.2.2.1, (if eqv e.1 v = true then e.2.2.2.1 else mrk (s.1 + 1) e.2.2.2.1), e.2.2.2.2)) i2 hd) (GE_fg he a2) a1
      have f2 : FG l σ τ2 := FG_mono (FG_trans a2 y2) (by omega)
      have hv2 : ∀ u, u < 5 → τ2.1 132 (5 * l + u) = v u := fun u hu => by rw [y2.2.2.2 _ (by omega)]; exact hv1 u hu
      have hs72 : s.1 + 1 < 72 := by
        have k1 : e.2.1 ≤ len := y3.1
        have := he.1
        omega
      obtain ⟨τ3, z1, z2, z3, z4⟩ := gcmp (rs := rs) (k5 := m_sum_117_L5 rs m) (l := l) (a := s.1 + 1) (by omega) hs72 y3
      have f3 := FG_trans f2 z3
      have hq5 : eqk τ2 l 5 = eqv e.1 v := by
        have w1 := eqk_iff (σ := τ2) (l := l) 5
        have w2 := eqv_iff (v := e.1) (w := v)
        have : eqk τ2 l 5 = true ↔ eqv e.1 v = true := by
          rw [w1, w2]
          constructor
          · intro w u hu
            rw [← hv2 u hu, w u hu, y4 u hu]
          · intro w u hu
            rw [hv2 u hu, y4 u hu, w u hu]
        exact Bool.eq_iff_iff.mpr this
      rw [hq5] at z4
      rw [y1, bd_s, h23, z1]
      obtain ⟨τ4, u1, u2, u3, u4⟩ := ih m v _ a τ3 (by show 72 ≤ e.2.1 + n; omega) (by omega) i2 hd (GE_fg he f3) z4 (fun u hu => by rw [FR_i z2 (by decide)]; exact hv2 u hu)
      exact ⟨τ4, u1, FG_trans f3 u2, u3, u4⟩
    · rw [if_neg g] at hx ⊢
      injection hx with hx
      subst hx
      exact ⟨σ, rfl, FG_refl _ _, h, hv⟩
theorem gsumH {c : Nat → Int32} {len q L l : Nat} {D : Nat → Vc} {b : Bool} {prs : Pst → Nat ⊕ (Vc × Pst)} {rs : Int32 → Sg → Option (Unit × Sg)} {s : Pst} {a : Vc × Pst} {σ : Sg} (hR : GsOk c len q D prs rs L) (hl : l + 2 ≤ L) (hx : pSumH c q D b prs s = .inr a) (hd : ¬ isD (c a.2.1) = true) (he : GE c len q D σ) (h : Gst len s σ) : Gok len l a (m_sum_117_H rs (nI l) σ) σ := by
  unfold pSumH at hx
  obtain ⟨e, i1, i2⟩ := pbd_i hx
  obtain ⟨τ1, y1, y2, y3, y4⟩ := gterm hR (show l + 1 ≤ L by omega) i1 (pSumL_nd i2 hd) he h
  unfold m_sum_117_H
  rw [y1, bd_s]
  obtain ⟨τ4, u1, u2, u3, u4⟩ := gsumL hR hl 72 fu _ e.2 a τ1 (by omega) (by decide) i2 hd (GE_fg he y2) y3 y4
  exact ⟨τ4, u1, FG_trans y2 u2, u3, u4⟩
theorem gsum_p {c : Nat → Int32} {len q : Nat} {D : Nat → Vc} : ∀ d m l (s : Pst) (a : Vc × Pst) (σ : Sg), l + 2 * d + 2 < 40 → d < m → pSum c q D d s = .inr a → ¬ isD (c a.2.1) = true → GE c len q D σ → Gst len s σ → Gok len l a (m_sum_117 m (nI l) σ) σ
  | 0, m, l, s, a, σ, hl, hm, hx, hd, he, h => by
    obtain ⟨m, rfl⟩ : ∃ k, m = k + 1 := ⟨m - 1, by omega⟩
    have hR : GsOk c len q D (fun _ => .inl 0) (m_sum_117 m) 39 := ⟨by omega, fun s a h => (by cases h), fun l s a σ _ h => (by cases h)⟩
    exact gsumH hR (by omega) hx hd he h
  | d + 1, m, l, s, a, σ, hl, hm, hx, hd, he, h => by
    obtain ⟨m, rfl⟩ : ∃ k, m = k + 1 := ⟨m - 1, by omega⟩
    have hR : GsOk c len q D (pSum c q D d) (m_sum_117 m) (l + 2) := ⟨by omega, pSum_M d, fun l' s a σ hl' h1 h2 h3 h4 => gsum_p d m l' s a σ (by omega) (by omega) h1 h2 h3 h4⟩
    exact gsumH hR (by omega) hx hd he h
