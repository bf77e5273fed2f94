/-! ===== PURE: the reference goes through both sides ===== -/
def FGW (σ σ' : Sg) : Prop := (∀ c, c ≠ 117 → c ≠ 132 → c ≠ 133 → c ≠ 134 → σ'.1 c = σ.1 c) ∧ σ'.2 = σ.2 ∧ ∀ j, j ≠ 23 → j ≠ 24 → j ≠ 25 → σ'.1 117 j = σ.1 117 j
theorem FGW_refl (σ : Sg) : FGW σ σ := ⟨fun _ _ _ _ _ => rfl, rfl, fun _ _ _ _ => rfl⟩
theorem FGW_trans {a b c : Sg} (h : FGW a b) (g : FGW b c) : FGW a c := ⟨fun x h1 h2 h3 h4 => (g.1 x h1 h2 h3 h4).trans (h.1 x h1 h2 h3 h4), g.2.1.trans h.2.1, fun j h1 h2 h3 => (g.2.2 j h1 h2 h3).trans (h.2.2 j h1 h2 h3)⟩
theorem FGW_fg {l : Nat} {a b : Sg} (h : FG l a b) : FGW a b := ⟨fun c h1 h2 _ h4 => h.1 c h1 h2 h4, h.2.1, fun j h1 h2 _ => h.2.2.1 j h1 h2⟩
theorem FGW_17 {j : Nat} {x : Int32} {σ : Sg} (hj : j = 23 ∨ j = 24 ∨ j = 25) : FGW σ (si σ 117 j x) := ⟨fun c h1 _ _ _ => si_c h1, rfl, fun i h1 h2 h3 => si_j (by omega)⟩
theorem FGW_FR {a b : Sg} (S : List Nat) (h : FR S a b) (hS : ∀ c, c ∈ S → c = 132 ∨ c = 133 ∨ c = 134) (hl : b.2 = a.2) : FGW a b := by
  have n : ∀ c, c ≠ 132 → c ≠ 133 → c ≠ 134 → b.1 c = a.1 c := by
    intro c h1 h2 h3
    apply FR_i h
    cases hq : S.contains c
    · rfl
    · have hc : c ∈ S := by simpa using hq
      have := hS c hc
      omega
  exact ⟨fun c _ h2 h3 h4 => n c h2 h3 h4, hl, fun j _ _ _ => by rw [n 117 (by omega) (by omega) (by omega)]⟩
theorem GE_w {c : Nat → Int32} {len q : Nat} {D : Nat → Vc} {σ τ : Sg} (h : GE c len q D σ) (f : FGW σ τ) : GE c len q D τ := by
  obtain ⟨h1, h2, h3, h4, h5, h6, h7⟩ := h
  have e := f.1 118 (by omega) (by omega) (by omega) (by omega)
  exact ⟨h1, h2, by rw [e]; exact h3, fun j hj => by rw [e]; exact h4 j hj, h5, h6, fun k u => by rw [dm_fr e]; exact h7 k u⟩
theorem gfill {σ : Sg} : ∃ τ, m_goesThrough_117 σ = m_goesThrough_117_L33 fu 0 (si (si τ 117 23 0) 117 24 0) ∧ FR [134] σ τ ∧ τ.2 = σ.2 ∧ ∀ j, j < 72 → τ.1 134 j = 0 := by
  unfold m_goesThrough_117
  refine loopE (L := fun m u s => m_goesThrough_117_L2 m (nI u) s) (N := 72) (P := fun k τ => FR [134] σ τ ∧ τ.2 = σ.2 ∧ ∀ j, j < k → τ.1 134 j = 0) (Q := fun r => ∃ τ, r = m_goesThrough_117_L33 fu 0 (si (si τ 117 23 0) 117 24 0) ∧ FR [134] σ τ ∧ τ.2 = σ.2 ∧ ∀ j, j < 72 → τ.1 134 j = 0) ?_ ?_ (by decide) ⟨FR_refl _ _, rfl, fun u hu => absurd hu (Nat.not_lt_zero _)⟩
  · rintro m k τ hk ⟨f, f2, g⟩
    refine ⟨si τ 134 k (0 &&& 1), ?_, FR_si f (by decide), f2, ?_⟩
    · show m_goesThrough_117_H2 (m_goesThrough_117_L2 m) (nI k) τ = _
      unfold m_goesThrough_117_H2
      rw [if_neg (show ¬ (72 : Int32) ≤ nI k from nI_ge (b := 72) hk (by decide)), inB_t hk (by omega), gd_t, cl_n (by omega), nI_1]
    · intro j hj
      by_cases e : j = k
      · subst e; rw [si_e]; decide
      · rw [si_j e]; exact g j (by omega)
  · rintro m τ ⟨f, f2, g⟩
    refine ⟨τ, ?_, f, f2, g⟩
    show m_goesThrough_117_H2 (m_goesThrough_117_L2 m) (nI 72) τ = _
    unfold m_goesThrough_117_H2
    rw [if_pos (show (72 : Int32) ≤ nI 72 by decide)]
theorem gcopy {k33 : Int32 → Sg → Option (Unit × Sg)} {v : Nat} {σ : Sg} (hv : v < 2) : ∃ τ, m_goesThrough_117_L45 k33 fu (nI v) 0 σ = (if v = 0 then m_goesThrough_117_b84 k33 (nI v) (si τ 117 25 (τ.1 117 23)) else m_goesThrough_117_b84 k33 (nI v) τ) ∧ FR [133] σ τ ∧ τ.2 = σ.2 ∧ (∀ u, u < 5 → τ.1 133 (5 * v + u) = σ.1 132 u) ∧ ∀ j, j < 5 * v → τ.1 133 j = σ.1 133 j := by
  refine loopE (L := fun m u s => m_goesThrough_117_L45 k33 m (nI v) (nI u) s) (N := 5) (P := fun k τ => FR [133] σ τ ∧ τ.2 = σ.2 ∧ (∀ u, u < k → τ.1 133 (5 * v + u) = σ.1 132 u) ∧ ∀ j, j < 5 * v → τ.1 133 j = σ.1 133 j) (Q := fun r => ∃ τ, r = (if v = 0 then m_goesThrough_117_b84 k33 (nI v) (si τ 117 25 (τ.1 117 23)) else m_goesThrough_117_b84 k33 (nI v) τ) ∧ FR [133] σ τ ∧ τ.2 = σ.2 ∧ (∀ u, u < 5 → τ.1 133 (5 * v + u) = σ.1 132 u) ∧ ∀ j, j < 5 * v → τ.1 133 j = σ.1 133 j) ?_ ?_ (by decide) ⟨FR_refl _ _, rfl, fun u hu => absurd hu (Nat.not_lt_zero _), fun _ _ => rfl⟩
  · rintro m k τ hk ⟨f, f2, g1, g2⟩
    refine ⟨si τ 133 (5 * v + k) (σ.1 132 k), ?_, FR_si f (by decide), f2, ?_, ?_⟩
    · show m_goesThrough_117_H45 k33 (m_goesThrough_117_L45 k33 m) (nI v) (nI k) τ = _
      unfold m_goesThrough_117_H45
      rw [if_neg (show ¬ (5 : Int32) ≤ nI k from nI_ge (b := 5) hk (by decide)), inB_t (by omega) (by omega), gd_t, i5l, inB_t (by omega) (by omega), gd_t, cl_n (by omega), cl_n (by omega), nI_1, FR_i f (by decide)]
    · intro u hu
      by_cases e : u = k
      · subst e; rw [si_e]
      · rw [si_j (by omega)]; exact g1 u (by omega)
    · intro j hj
      rw [si_j (by omega)]; exact g2 j hj
  · rintro m τ ⟨f, f2, g1, g2⟩
    refine ⟨τ, ?_, f, f2, g1, g2⟩
    show m_goesThrough_117_H45 k33 (m_goesThrough_117_L45 k33 m) (nI v) (nI 5) τ = _
    unfold m_goesThrough_117_H45
    rw [if_pos (show (5 : Int32) ≤ nI 5 by decide)]
    by_cases e : v = 0
    · rw [if_pos (show nI v = 0 by rw [e]; rfl), if_pos e]
    · rw [if_neg (show ¬ nI v = 0 from fun w => e ((nI_eq (b := 0) (by omega) (by omega)).mp w)), if_neg e]
/-- equal so far, of the sides -/
def eqs (σ : Sg) : Nat → Bool
  | 0 => true
  | k + 1 => eqs σ k && decide (σ.1 133 k = σ.1 133 (5 + k))
theorem eqs_iff {σ : Sg} : ∀ k, eqs σ k = true ↔ ∀ u, u < k → σ.1 133 u = σ.1 133 (5 + u)
  | 0 => ⟨fun _ u hu => absurd hu (Nat.not_lt_zero _), fun _ => rfl⟩
  | k + 1 => by
    have ih := eqs_iff (σ := σ) k
    show (eqs σ k && decide _) = true ↔ _
    rw [Bool.and_eq_true, ih, decide_eq_true_eq]
    constructor
    · rintro ⟨h1, h2⟩ u hu
      by_cases e : u = k
      · rw [e]; exact h2
      · exact h1 u (by omega)
    · intro h
      exact ⟨fun u hu => h u (by omega), h k (by omega)⟩
theorem gcmp2 {w : Nat → Bool} {a : Nat} {σ : Sg} (ha : a < 72) (h25 : σ.1 117 25 = nI a) (hw : ∀ j, j < 72 → σ.1 134 j = if w j = true then 1 else 0) : ∃ τ, m_goesThrough_117_L102 fu 0 σ = some ((), τ) ∧ FR [134] σ τ ∧ τ.2 = σ.2 ∧ ∀ j, j < 72 → τ.1 134 j = if (if eqs σ 5 = true then w else mrk a w) j = true then 1 else 0 := by
  refine loopE (L := fun m u s => m_goesThrough_117_L102 m (nI u) s) (N := 5) (P := fun k τ => FR [134] σ τ ∧ τ.2 = σ.2 ∧ ∀ j, j < 72 → τ.1 134 j = if (if eqs σ k = true then w else mrk a w) j = true then 1 else 0) (Q := fun r => ∃ τ, r = some ((), τ) ∧ FR [134] σ τ ∧ τ.2 = σ.2 ∧ ∀ j, j < 72 → τ.1 134 j = if (if eqs σ 5 = true then w else mrk a w) j = true then 1 else 0) ?_ ?_ (by decide) ⟨FR_refl _ _, rfl, hw⟩
  · rintro m k τ hk ⟨f, f2, g⟩
    have e133 : τ.1 133 = σ.1 133 := FR_i f (by decide)
    have e117 : τ.1 117 = σ.1 117 := FR_i f (by decide)
    refine ⟨si τ 134 a (((τ.1 134 a) ||| (if decide (σ.1 133 k = σ.1 133 (5 + k)) = true then 0 else 1)) &&& 1), ?_, FR_si f (by decide), f2, ?_⟩
    · show m_goesThrough_117_H102 (m_goesThrough_117_L102 m) (nI k) τ = _
      unfold m_goesThrough_117_H102 m_goesThrough_117_b139
      have i5 : (5 : Int32) + nI k = nI (5 + k) := by rw [show (5 : Int32) = nI 5 from rfl, nI_add]
      rw [if_neg (show ¬ (5 : Int32) ≤ nI k from nI_ge (b := 5) hk (by decide)), e117, h25, inB_t ha (by omega), gd_t, inB_t (by omega) (by omega), gd_t, i5, inB_t (by omega) (by omega), gd_t, cl_n (by omega), cl_n (by omega), cl_n (by omega), gd_t, gd_t, nI_1, e133]
      by_cases g : σ.1 133 k = σ.1 133 (5 + k)
      · rw [if_pos g, decide_eq_true g, if_pos rfl]
      · rw [if_neg g, decide_eq_false g, if_neg (by decide)]
    · have gm := gmark (len := 72) (s := (0, 0, (if eqs σ k = true then w else mrk a w), τ.1 117 24)) (σ := si τ 117 23 0) ⟨by show 0 ≤ 72; omega, by rw [si_e]; rfl, by rw [si_j (by omega)], fun j hj => by rw [si_c (by omega)]; exact g j hj⟩ ha (decide (σ.1 133 k = σ.1 133 (5 + k)))
      have e2 : (if decide (σ.1 133 k = σ.1 133 (5 + k)) = true then (if eqs σ k = true then w else mrk a w) else mrk a (if eqs σ k = true then w else mrk a w)) = (if eqs σ (k + 1) = true then w else mrk a w) := by
        show _ = (if (eqs σ k && decide _) = true then w else mrk a w)
        cases decide (σ.1 133 k = σ.1 133 (5 + k)) <;> cases eqs σ k <;> simp [mrk2]
      intro j hj
      have gj : (si (si τ 117 23 0) 134 a ((((si τ 117 23 0).1 134 a) ||| (if decide (σ.1 133 k = σ.1 133 (5 + k)) = true then 0 else 1)) &&& 1)).1 134 j = if (if decide (σ.1 133 k = σ.1 133 (5 + k)) = true then (if eqs σ k = true then w else mrk a w) else mrk a (if eqs σ k = true then w else mrk a w)) j = true then 1 else 0 := gm.2.2.2 j hj
      rw [e2] at gj
      rw [← gj, si_c (show 134 ≠ 117 by omega)]
      by_cases e : j = a
      · subst e; rw [si_e, si_e]
      · rw [si_j e, si_j e, si_c (by omega)]
  · rintro m τ ⟨f, f2, g⟩
    refine ⟨τ, ?_, f, f2, g⟩
    show m_goesThrough_117_H102 (m_goesThrough_117_L102 m) (nI 5) τ = _
    unfold m_goesThrough_117_H102
    rw [if_pos (show (5 : Int32) ≤ nI 5 by decide)]
theorem g33 (m : Nat) (σ : Sg) : m_goesThrough_117_L33 (m + 1) (nI 0) σ = bd (m_sum_117 12 (nI 0) σ) fun _ σ1 => m_goesThrough_117_L45 (m_goesThrough_117_L33 m) fu (nI 0) 0 σ1 := by
  show m_goesThrough_117_H33 (m_goesThrough_117_L33 m) (nI 0) σ = _
  unfold m_goesThrough_117_H33
  rw [if_neg (by decide)]; rfl
theorem g33b (m : Nat) (σ : Sg) : m_goesThrough_117_L33 (m + 1) (nI 1) σ = bd (m_sum_117 12 (nI 0) σ) fun _ σ1 => m_goesThrough_117_L45 (m_goesThrough_117_L33 m) fu (nI 1) 0 σ1 := by
  show m_goesThrough_117_H33 (m_goesThrough_117_L33 m) (nI 1) σ = _
  unfold m_goesThrough_117_H33
  rw [if_neg (by decide)]; rfl
theorem g33c (m : Nat) (σ : Sg) : m_goesThrough_117_L33 (m + 1) (nI 2) σ = m_goesThrough_117_L102 fu 0 σ := by
  show m_goesThrough_117_H33 (m_goesThrough_117_L33 m) (nI 2) σ = _
  unfold m_goesThrough_117_H33
  rw [if_pos (by decide)]
/-- gone through, in the end -/
def Gd (r : Vc × Vc × Nat × Pst) (τ : Sg) : Prop := τ.1 117 24 = r.2.2.2.2.2.2 ∧ (∀ j, j < 72 → τ.1 134 j = if (if eqv r.1 r.2.1 = true then r.2.2.2.2.2.1 else mrk r.2.2.1 r.2.2.2.2.2.1) j = true then 1 else 0) ∧ (∀ u, u < 5 → τ.1 133 u = r.1 u) ∧ ∀ u, u < 5 → τ.1 133 (5 + u) = r.2.1 u
theorem mgoes {c : Nat → Int32} {len q : Nat} {D : Nat → Vc} {r : Vc × Vc × Nat × Pst} {σ : Sg} (he : GE c len q D σ) (hr : pBoth c q D = .inr r) : ∃ τ, m_goesThrough_117 σ = some ((), τ) ∧ FGW σ τ ∧ Gd r τ := by
  obtain ⟨τ0, x1, x2, x3, x4⟩ := gfill (σ := σ)
  rw [x1]
  have f0 : FGW σ τ0 := FGW_FR _ x2 (fun c hc => by simp only [List.mem_cons, List.not_mem_nil, or_false] at hc; omega) x3
  generalize hτ1 : si (si τ0 117 23 0) 117 24 0 = τ1
  have f1 : FGW σ τ1 := by rw [← hτ1]; exact FGW_trans f0 (FGW_trans (FGW_17 (Or.inl rfl)) (FGW_17 (Or.inr (Or.inl rfl))))
  have s1 : Gst len (0, 0, (fun _ => false), 0) τ1 := by
    rw [← hτ1]
    refine ⟨by show 0 ≤ len; omega, by rw [si_j (by omega), si_e]; rfl, by rw [si_e], fun j hj => ?_⟩
    rw [si_c (by omega), si_c (by omega), x4 j hj]; rfl
  unfold pBoth at hr
  obtain ⟨a, i1, i2⟩ := pbd_i hr
  by_cases g : c a.2.1 = 61
  · rw [if_pos g] at i2
    obtain ⟨e, i3, i4⟩ := pbd_i i2
    obtain ⟨j4, i5⟩ := ite_r i4
    subst i5
    have hda : ¬ isD (c a.2.1) = true := by rw [g]; decide
    have hde : ¬ isD (c e.2.1) = true := by rw [j4]; exact isD_n1
    obtain ⟨τ2, y1, y2, y3, y4⟩ := gsum_p 6 12 0 _ a τ1 (by omega) (by omega) i1 hda (GE_w he f1) s1
    have f2 : FGW σ τ2 := FGW_trans f1 (FGW_fg y2)
    have halt := gc_lt he (p := a.2.1) (by rw [g]; decide)
    have ha72 : a.2.1 < 72 := by have := he.1; omega
    obtain ⟨τ3, z1, z2, z3, z4, z5⟩ := gcopy (k33 := m_goesThrough_117_L33 (fu - 1)) (v := 0) (σ := τ2) (by omega)
    have f3 : FGW σ τ3 := FGW_trans f2 (FGW_FR _ z2 (fun c hc => by simp only [List.mem_cons, List.not_mem_nil, or_false] at hc; omega) z3)
    have h323 : τ3.1 117 23 = nI a.2.1 := by rw [FR_i z2 (by decide)]; exact y3.2.1
    rw [if_pos rfl, h323] at z1
    have w1 : m_goesThrough_117_L33 fu 0 τ1 = m_goesThrough_117_L33 (fu - 1) (nI 1) (si (si τ3 117 25 (nI a.2.1)) 117 23 (nI (a.2.1 + 1))) := by
      have e1 : m_goesThrough_117_L33 fu 0 τ1 = bd (m_sum_117 12 (nI 0) τ1) fun _ σ1 => m_goesThrough_117_L45 (m_goesThrough_117_L33 (fu - 1)) fu (nI 0) 0 σ1 := g33 (fu - 1) τ1
      rw [e1, y1, bd_s, z1]
      unfold m_goesThrough_117_b84
      rw [si_j (by omega), h323, nI_1, nI_1]
    rw [w1]
    generalize hτ4 : si (si τ3 117 25 (nI a.2.1)) 117 23 (nI (a.2.1 + 1)) = τ4
    have f4 : FGW σ τ4 := by rw [← hτ4]; exact FGW_trans f3 (FGW_trans (FGW_17 (Or.inr (Or.inr rfl))) (FGW_17 (Or.inl rfl)))
    have s4 : Gst len (a.2.1 + 1, a.2.2) τ4 := by
      obtain ⟨k1, k2, k3, k4⟩ := y3
      rw [← hτ4]
      refine ⟨by show a.2.1 + 1 ≤ len; omega, by rw [si_e], ?_, fun j hj => ?_⟩
      · rw [si_j (by omega), si_j (by omega), FR_i z2 (by decide)]; exact k3
      · rw [si_c (by omega), si_c (by omega), FR_i z2 (by decide)]; exact k4 j hj
    have h425 : τ4.1 117 25 = nI a.2.1 := by rw [← hτ4, si_j (by omega), si_e]
    have h4133 : ∀ u, u < 5 → τ4.1 133 u = a.1 u := fun u hu => by
      have := z4 u hu
      rw [show 5 * 0 + u = u by omega] at this
      have y4' := y4 u hu
      rw [show 5 * 0 + u = u by omega] at y4'
      rw [← hτ4, si_c (by omega), si_c (by omega), this, y4']
    obtain ⟨τ5, u1, u2, u3, u4⟩ := gsum_p 6 12 0 _ e τ4 (by omega) (by omega) i3 hde (GE_w he f4) s4
    have f5 : FGW σ τ5 := FGW_trans f4 (FGW_fg u2)
    obtain ⟨τ6, v1, v2, v3, v4, v5⟩ := gcopy (k33 := m_goesThrough_117_L33 (fu - 1 - 1)) (v := 1) (σ := τ5) (by omega)
    have f6 : FGW σ τ6 := FGW_trans f5 (FGW_FR _ v2 (fun c hc => by simp only [List.mem_cons, List.not_mem_nil, or_false] at hc; omega) v3)
    rw [if_neg (by omega)] at v1
    have w2 : m_goesThrough_117_L33 (fu - 1) (nI 1) τ4 = m_goesThrough_117_L102 fu 0 (si τ6 117 23 ((τ6.1 117 23) + 1)) := by
      have e1 : m_goesThrough_117_L33 (fu - 1) (nI 1) τ4 = bd (m_sum_117 12 (nI 0) τ4) fun _ σ1 => m_goesThrough_117_L45 (m_goesThrough_117_L33 (fu - 1 - 1)) fu (nI 1) 0 σ1 := g33b (fu - 1 - 1) τ4
      rw [e1, u1, bd_s, v1]
      unfold m_goesThrough_117_b84
      rw [nI_1]
      exact g33c (fu - 1 - 1 - 1) _
    rw [w2]
    generalize hτ7 : si τ6 117 23 ((τ6.1 117 23) + 1) = τ7
    have f7 : FGW σ τ7 := by rw [← hτ7]; exact FGW_trans f6 (FGW_17 (Or.inl rfl))
    have h725 : τ7.1 117 25 = nI a.2.1 := by
      rw [← hτ7, si_j (by omega), FR_i v2 (by decide), u2.2.2.1 25 (by omega) (by omega)]; exact h425
    have h724 : τ7.1 117 24 = e.2.2.2.2 := by
      rw [← hτ7, si_j (by omega), FR_i v2 (by decide)]; exact u3.2.2.1
    have h734 : ∀ j, j < 72 → τ7.1 134 j = if e.2.2.2.1 j = true then 1 else 0 := fun j hj => by
      rw [← hτ7, si_c (by omega), FR_i v2 (by decide)]; exact u3.2.2.2 j hj
    have h7a : ∀ u, u < 5 → τ7.1 133 u = a.1 u := fun u hu => by
      rw [← hτ7, si_c (by omega), v5 u (by omega), u2.1 133 (by omega) (by omega) (by omega)]; exact h4133 u hu
    have h7b : ∀ u, u < 5 → τ7.1 133 (5 + u) = e.1 u := fun u hu => by
      have := v4 u hu
      rw [show 5 * 1 + u = 5 + u by omega] at this
      have u4' := u4 u hu
      rw [show 5 * 0 + u = u by omega] at u4'
      rw [← hτ7, si_c (by omega), this, u4']
    obtain ⟨τ8, t1, t2, t3, t4⟩ := gcmp2 ha72 h725 h734
    have hq5 : eqs τ7 5 = eqv a.1 e.1 := by
      have : eqs τ7 5 = true ↔ eqv a.1 e.1 = true := by
        rw [eqs_iff, eqv_iff]
        constructor
        · intro w u hu
          rw [← h7a u hu, w u hu, h7b u hu]
        · intro w u hu
          rw [h7a u hu, h7b u hu, w u hu]
      exact Bool.eq_iff_iff.mpr this
    rw [hq5] at t4
    refine ⟨τ8, t1, FGW_trans f7 (FGW_FR _ t2 (fun c hc => by simp only [List.mem_cons, List.not_mem_nil, or_false] at hc; omega) t3), ?_, t4, ?_, ?_⟩
    · rw [FR_i t2 (by decide)]; exact h724
    · intro u hu; rw [FR_i t2 (by decide)]; exact h7a u hu
    · intro u hu; rw [FR_i t2 (by decide)]; exact h7b u hu
  · rw [if_neg g] at i2; cases i2
