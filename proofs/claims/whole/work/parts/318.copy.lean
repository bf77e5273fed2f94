/-! ===== PURE: copies of a model ===== -/
theorem imin72 : ∀ k, k < 73 → imin (nI k) 72 = nI k := by decide +kernel
theorem ck_l : ck 14 = 0 ∧ al 14 = 72 ∧ ck 28 = 0 ∧ al 28 = 72 := by decide +kernel
theorem jcopy_15_1 {q len : Nat} {σ : Sg} (hq : q ≤ 8) (hlen : len ≤ 72) (h0 : σ.1 1 0 = nI q) (h6 : σ.1 1 6 = nI len) : ∃ σ', j_copyFrom_15_1 σ = some ((), σ') ∧ (∀ x, (x < 15 ∨ 28 < x) → σ'.1 x = σ.1 x) ∧ σ'.2 = σ.2 ∧ σ'.1 15 0 = nI q ∧ (∀ k, k < q → σ'.1 (15 + 1) k = σ.1 (1 + 1) k ∧ σ'.1 (15 + 11) k = σ.1 (1 + 11) k ∧ σ'.1 (15 + 12) k = σ.1 (1 + 12) k ∧ ∀ u, u < 5 → σ'.1 (15 + 2 + 1 + k) u = σ.1 (1 + 2 + 1 + k) u) ∧ σ'.1 15 6 = nI len ∧ σ'.1 15 7 = σ.1 1 7 ∧ ∀ j, j < len → σ'.1 (15 + 13) j = σ.1 (1 + 13) j := by
  unfold j_copyFrom_15_1
  rw [h0]
  refine loopE (L := fun m i s => j_copyFrom_15_1_L10 m (nI i) s) (N := q) (P := fun i τ => (∀ x, (x < 15 ∨ 28 < x) → τ.1 x = σ.1 x) ∧ τ.2 = σ.2 ∧ τ.1 15 0 = nI q ∧ ∀ k, k < i → τ.1 (15 + 1) k = σ.1 (1 + 1) k ∧ τ.1 (15 + 11) k = σ.1 (1 + 11) k ∧ τ.1 (15 + 12) k = σ.1 (1 + 12) k ∧ ∀ u, u < 5 → τ.1 (15 + 2 + 1 + k) u = σ.1 (1 + 2 + 1 + k) u) (Q := fun r => ∃ σ', r = some ((), σ') ∧ (∀ x, (x < 15 ∨ 28 < x) → σ'.1 x = σ.1 x) ∧ σ'.2 = σ.2 ∧ σ'.1 15 0 = nI q ∧ (∀ k, k < q → σ'.1 (15 + 1) k = σ.1 (1 + 1) k ∧ σ'.1 (15 + 11) k = σ.1 (1 + 11) k ∧ σ'.1 (15 + 12) k = σ.1 (1 + 12) k ∧ ∀ u, u < 5 → σ'.1 (15 + 2 + 1 + k) u = σ.1 (1 + 2 + 1 + k) u) ∧ σ'.1 15 6 = nI len ∧ σ'.1 15 7 = σ.1 1 7 ∧ ∀ j, j < len → σ'.1 (15 + 13) j = σ.1 (1 + 13) j) ?_ ?_ (fu_lt (by omega)) ⟨fun x hx => si_c (by omega), rfl, si_e, fun k hk => absurd hk (Nat.not_lt_zero _)⟩
  · rintro m i τ hi ⟨g1, g2, g3, g4⟩
    have hcp : cpB (1 + 2 + 1 + i) (15 + 2 + 1 + i) 0 0 5 = true := by
      unfold cpB
      rw [show ck (1 + 2 + 1 + i) = 0 from (ckT_told i (by omega)).1, show al (1 + 2 + 1 + i) = 5 from (ckT_told i (by omega)).2, show ck (15 + 2 + 1 + i) = 0 from (ckT_toldi i (by omega)).1, show al (15 + 2 + 1 + i) = 5 from (ckT_toldi i (by omega)).2]
      decide
    generalize hσ2 : si (si (si τ (15 + 1) i (σ.1 (1 + 1) i)) (15 + 11) i (σ.1 (1 + 11) i)) (15 + 12) i (σ.1 (1 + 12) i) = τ2
    have e2 : ∀ x, x ≠ 15 + 1 → x ≠ 15 + 11 → x ≠ 15 + 12 → τ2.1 x = τ.1 x := fun x x1 x2 x3 => by rw [← hσ2, si_c x3, si_c x2, si_c x1]
    refine ⟨scp τ2 (1 + 2 + 1 + i) (15 + 2 + 1 + i) 0 0 5, ?_, ?_, ?_, ?_, ?_⟩
    · show j_copyFrom_15_1_H10 (j_copyFrom_15_1_L10 m) (nI i) τ = _
      unfold j_copyFrom_15_1_H10
      rw [g3, if_neg (nI_ge hi (by omega)), inB_t (by omega) (by omega), gd_t, gd_t, gd_t, gd_t, gd_t, gd_t, gd_t, gd_t, cl_n (by omega), show cpB (3 + 1 + i) (17 + 1 + i) 0 0 5 = true from hcp, gd_t, nI_1]
      have w1 : τ.1 2 i = σ.1 (1 + 1) i := by rw [g1 2 (by omega)]
      have w2 : (si τ 16 i (σ.1 (1 + 1) i)).1 12 i = σ.1 (1 + 11) i := by rw [si_c (by omega), g1 12 (by omega)]
      have w3 : (si (si τ 16 i (σ.1 (1 + 1) i)) 26 i (σ.1 (1 + 11) i)).1 13 i = σ.1 (1 + 12) i := by rw [si_c (by omega), si_c (by omega), g1 13 (by omega)]
      rw [w1, w2, w3, ← hσ2]
    · intro x hx
      rw [sc_c (by omega), e2 x (by omega) (by omega) (by omega)]; exact g1 x hx
    · rw [sc_l, ← hσ2]; exact g2
    · rw [sc_c (by omega), e2 15 (by omega) (by omega) (by omega)]; exact g3
    · intro k hk
      refine ⟨?_, ?_, ?_, ?_⟩
      · rw [sc_c (by omega), ← hσ2, si_c (by omega), si_c (by omega)]
        by_cases e : k = i
        · rw [e, si_e]
        · rw [si_j e]; exact (g4 k (by omega)).1
      · rw [sc_c (by omega), ← hσ2, si_c (by omega)]
        by_cases e : k = i
        · rw [e, si_e]
        · rw [si_j e, si_c (by omega)]; exact (g4 k (by omega)).2.1
      · rw [sc_c (by omega), ← hσ2]
        by_cases e : k = i
        · rw [e, si_e]
        · rw [si_j e, si_c (by omega), si_c (by omega)]; exact (g4 k (by omega)).2.2.1
      · intro u hu
        by_cases e : k = i
        · rw [e, sc_i (by omega) (by omega), show 0 + (u - 0) = u by omega, e2 _ (by omega) (by omega) (by omega), g1 _ (by omega)]
        · rw [sc_c (by omega), e2 _ (by omega) (by omega) (by omega)]; exact (g4 k (by omega)).2.2.2 u hu
  · rintro m τ ⟨g1, g2, g3, g4⟩
    have hk6 : τ.1 1 6 = nI len := by rw [g1 1 (by omega)]; exact h6
    refine ⟨si (scp (si τ 15 6 (nI len)) (1 + 13) (15 + 13) 0 0 len) 15 7 (σ.1 1 7), ?_, ?_, ?_, ?_, ?_, ?_, ?_, ?_⟩
    · show j_copyFrom_15_1_H10 (j_copyFrom_15_1_L10 m) (nI q) τ = _
      unfold j_copyFrom_15_1_H10 j_keepFormula_15_14
      rw [g3, if_pos (nI_le (by omega) (by omega)), hk6, imin72 len (by omega), si_e, cl_n (by omega)]
      have hcp : cpB 14 28 0 0 (nI len) = true := by
        unfold cpB
        rw [ck_l.1, ck_l.2.1, ck_l.2.2.1, ck_l.2.2.2, cl_n (by omega)]
        have t2 : decide (nI len < 0) = false := decide_eq_false (nI_pos (by omega))
        rw [t2]
        simp [cl0]
        exact hlen
      rw [hcp, gd_t, bd_s, g1 1 (by omega)]
    · intro x hx
      rw [si_c (by omega), sc_c (by omega), si_c (by omega)]; exact g1 x hx
    · exact g2
    · rw [si_j (by omega), sc_c (by omega), si_j (by omega)]; exact g3
    · intro k hk
      obtain ⟨q1, q2, q3, q4⟩ := g4 k hk
      refine ⟨?_, ?_, ?_, fun u hu => ?_⟩
      · rw [si_c (by omega), sc_c (by omega), si_c (by omega)]; exact q1
      · rw [si_c (by omega), sc_c (by omega), si_c (by omega)]; exact q2
      · rw [si_c (by omega), sc_c (by omega), si_c (by omega)]; exact q3
      · rw [si_c (by omega), sc_c (by omega), si_c (by omega)]; exact q4 u hu
    · rw [si_j (by omega), sc_c (by omega), si_e]
    · rw [si_e]
    · intro j hj
      rw [si_c (by omega), sc_i (by omega) (by omega), show 0 + (j - 0) = j by omega, si_c (by omega), g1 _ (by omega)]
theorem jcopy_1_15 {q len : Nat} {σ : Sg} (hq : q ≤ 8) (hlen : len ≤ 72) (h0 : σ.1 15 0 = nI q) (h6 : σ.1 15 6 = nI len) : ∃ σ', j_copyFrom_1_15 σ = some ((), σ') ∧ (∀ x, (x < 1 ∨ 14 < x) → σ'.1 x = σ.1 x) ∧ σ'.2 = σ.2 ∧ σ'.1 1 0 = nI q ∧ (∀ k, k < q → σ'.1 (1 + 1) k = σ.1 (15 + 1) k ∧ σ'.1 (1 + 11) k = σ.1 (15 + 11) k ∧ σ'.1 (1 + 12) k = σ.1 (15 + 12) k ∧ ∀ u, u < 5 → σ'.1 (1 + 2 + 1 + k) u = σ.1 (15 + 2 + 1 + k) u) ∧ σ'.1 1 6 = nI len ∧ σ'.1 1 7 = σ.1 15 7 ∧ ∀ j, j < len → σ'.1 (1 + 13) j = σ.1 (15 + 13) j := by
  unfold j_copyFrom_1_15
  rw [h0]
  refine loopE (L := fun m i s => j_copyFrom_1_15_L10 m (nI i) s) (N := q) (P := fun i τ => (∀ x, (x < 1 ∨ 14 < x) → τ.1 x = σ.1 x) ∧ τ.2 = σ.2 ∧ τ.1 1 0 = nI q ∧ ∀ k, k < i → τ.1 (1 + 1) k = σ.1 (15 + 1) k ∧ τ.1 (1 + 11) k = σ.1 (15 + 11) k ∧ τ.1 (1 + 12) k = σ.1 (15 + 12) k ∧ ∀ u, u < 5 → τ.1 (1 + 2 + 1 + k) u = σ.1 (15 + 2 + 1 + k) u) (Q := fun r => ∃ σ', r = some ((), σ') ∧ (∀ x, (x < 1 ∨ 14 < x) → σ'.1 x = σ.1 x) ∧ σ'.2 = σ.2 ∧ σ'.1 1 0 = nI q ∧ (∀ k, k < q → σ'.1 (1 + 1) k = σ.1 (15 + 1) k ∧ σ'.1 (1 + 11) k = σ.1 (15 + 11) k ∧ σ'.1 (1 + 12) k = σ.1 (15 + 12) k ∧ ∀ u, u < 5 → σ'.1 (1 + 2 + 1 + k) u = σ.1 (15 + 2 + 1 + k) u) ∧ σ'.1 1 6 = nI len ∧ σ'.1 1 7 = σ.1 15 7 ∧ ∀ j, j < len → σ'.1 (1 + 13) j = σ.1 (15 + 13) j) ?_ ?_ (fu_lt (by omega)) ⟨fun x hx => si_c (by omega), rfl, si_e, fun k hk => absurd hk (Nat.not_lt_zero _)⟩
  · rintro m i τ hi ⟨g1, g2, g3, g4⟩
    have hcp : cpB (15 + 2 + 1 + i) (1 + 2 + 1 + i) 0 0 5 = true := by
      unfold cpB
      rw [show ck (15 + 2 + 1 + i) = 0 from (ckT_toldi i (by omega)).1, show al (15 + 2 + 1 + i) = 5 from (ckT_toldi i (by omega)).2, show ck (1 + 2 + 1 + i) = 0 from (ckT_told i (by omega)).1, show al (1 + 2 + 1 + i) = 5 from (ckT_told i (by omega)).2]
      decide
    generalize hσ2 : si (si (si τ (1 + 1) i (σ.1 (15 + 1) i)) (1 + 11) i (σ.1 (15 + 11) i)) (1 + 12) i (σ.1 (15 + 12) i) = τ2
    have e2 : ∀ x, x ≠ 1 + 1 → x ≠ 1 + 11 → x ≠ 1 + 12 → τ2.1 x = τ.1 x := fun x x1 x2 x3 => by rw [← hσ2, si_c x3, si_c x2, si_c x1]
    refine ⟨scp τ2 (15 + 2 + 1 + i) (1 + 2 + 1 + i) 0 0 5, ?_, ?_, ?_, ?_, ?_⟩
    · show j_copyFrom_1_15_H10 (j_copyFrom_1_15_L10 m) (nI i) τ = _
      unfold j_copyFrom_1_15_H10
      rw [g3, if_neg (nI_ge hi (by omega)), inB_t (by omega) (by omega), gd_t, gd_t, gd_t, gd_t, gd_t, gd_t, gd_t, gd_t, cl_n (by omega), show cpB (17 + 1 + i) (3 + 1 + i) 0 0 5 = true from hcp, gd_t, nI_1]
      have w1 : τ.1 16 i = σ.1 (15 + 1) i := by rw [g1 16 (by omega)]
      have w2 : (si τ 2 i (σ.1 (15 + 1) i)).1 26 i = σ.1 (15 + 11) i := by rw [si_c (by omega), g1 26 (by omega)]
      have w3 : (si (si τ 2 i (σ.1 (15 + 1) i)) 12 i (σ.1 (15 + 11) i)).1 27 i = σ.1 (15 + 12) i := by rw [si_c (by omega), si_c (by omega), g1 27 (by omega)]
      rw [w1, w2, w3, ← hσ2]
    · intro x hx
      rw [sc_c (by omega), e2 x (by omega) (by omega) (by omega)]; exact g1 x hx
    · rw [sc_l, ← hσ2]; exact g2
    · rw [sc_c (by omega), e2 1 (by omega) (by omega) (by omega)]; exact g3
    · intro k hk
      refine ⟨?_, ?_, ?_, ?_⟩
      · rw [sc_c (by omega), ← hσ2, si_c (by omega), si_c (by omega)]
        by_cases e : k = i
        · rw [e, si_e]
        · rw [si_j e]; exact (g4 k (by omega)).1
      · rw [sc_c (by omega), ← hσ2, si_c (by omega)]
        by_cases e : k = i
        · rw [e, si_e]
        · rw [si_j e, si_c (by omega)]; exact (g4 k (by omega)).2.1
      · rw [sc_c (by omega), ← hσ2]
        by_cases e : k = i
        · rw [e, si_e]
        · rw [si_j e, si_c (by omega), si_c (by omega)]; exact (g4 k (by omega)).2.2.1
      · intro u hu
        by_cases e : k = i
        · rw [e, sc_i (by omega) (by omega), show 0 + (u - 0) = u by omega, e2 _ (by omega) (by omega) (by omega), g1 _ (by omega)]
        · rw [sc_c (by omega), e2 _ (by omega) (by omega) (by omega)]; exact (g4 k (by omega)).2.2.2 u hu
  · rintro m τ ⟨g1, g2, g3, g4⟩
    have hk6 : τ.1 15 6 = nI len := by rw [g1 15 (by omega)]; exact h6
    refine ⟨si (scp (si τ 1 6 (nI len)) (15 + 13) (1 + 13) 0 0 len) 1 7 (σ.1 15 7), ?_, ?_, ?_, ?_, ?_, ?_, ?_, ?_⟩
    · show j_copyFrom_1_15_H10 (j_copyFrom_1_15_L10 m) (nI q) τ = _
      unfold j_copyFrom_1_15_H10 j_keepFormula_1_28
      rw [g3, if_pos (nI_le (by omega) (by omega)), hk6, imin72 len (by omega), si_e, cl_n (by omega)]
      have hcp : cpB 28 14 0 0 (nI len) = true := by
        unfold cpB
        rw [ck_l.2.2.1, ck_l.2.2.2, ck_l.1, ck_l.2.1, cl_n (by omega)]
        have t2 : decide (nI len < 0) = false := decide_eq_false (nI_pos (by omega))
        rw [t2]
        simp [cl0]
        exact hlen
      rw [hcp, gd_t, bd_s, g1 15 (by omega)]
    · intro x hx
      rw [si_c (by omega), sc_c (by omega), si_c (by omega)]; exact g1 x hx
    · exact g2
    · rw [si_j (by omega), sc_c (by omega), si_j (by omega)]; exact g3
    · intro k hk
      obtain ⟨q1, q2, q3, q4⟩ := g4 k hk
      refine ⟨?_, ?_, ?_, fun u hu => ?_⟩
      · rw [si_c (by omega), sc_c (by omega), si_c (by omega)]; exact q1
      · rw [si_c (by omega), sc_c (by omega), si_c (by omega)]; exact q2
      · rw [si_c (by omega), sc_c (by omega), si_c (by omega)]; exact q3
      · rw [si_c (by omega), sc_c (by omega), si_c (by omega)]; exact q4 u hu
    · rw [si_j (by omega), sc_c (by omega), si_e]
    · rw [si_e]
    · intro j hj
      rw [si_c (by omega), sc_i (by omega) (by omega), show 0 + (j - 0) = j by omega, si_c (by omega), g1 _ (by omega)]
