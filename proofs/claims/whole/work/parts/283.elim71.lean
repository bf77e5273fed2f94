/-! ===== PURE: the class's elimination, object 71 ===== -/
/-- the table as it stands -/
def TB_71 (q : Nat) (T : Nat → Nat → Int64) (σ : Sg) : Prop := ∀ r c, r < 5 → c < q → σ.2 (72 + 1 + r) c = T r c
theorem TB_set_71 {q r j : Nat} {T T' : Nat → Nat → Int64} {x : Int64} {σ : Sg} (h : TB_71 q T σ) (hT : ∀ r' c, r' < 5 → c < q → T' r' c = if r' = r ∧ c = j then x else T r' c) : TB_71 q T' (sl σ (72 + 1 + r) j x) := by
  intro r' c hr hc
  rw [hT r' c hr hc]
  by_cases e : r' = r
  · subst e
    by_cases e2 : c = j
    · subst e2; rw [sl_e, if_pos ⟨rfl, rfl⟩]
    · rw [sl_j e2, if_neg (fun w => e2 w.2)]; exact h r' c hr hc
  · rw [sl_c (by omega), if_neg (fun w => e w.1)]; exact h r' c hr hc
def FRT_71 : List Nat := [73, 74, 75, 76, 77]
theorem FRT_in_71 {r : Nat} (hr : r < 5) : FRT_71.contains (72 + 1 + r) = true := by
  rcases lt5 hr with rfl | rfl | rfl | rfl | rfl <;> decide
theorem bring_in_71 {q k r : Nat} {T : Nat → Nat → Int64} (hq : q ≤ 8) (hk : k < 5) (hr : r < 5) : ∀ (d n j : Nat) (σ : Sg), j + d = q → d < n → σ.1 71 2 = nI q → σ.1 71 3 = nI k → TB_71 q (fun r' c => if c < j then esw T r k r' c else T r' c) σ → ∃ σ', j_bringUp_71_L25 n (nI r) (nI j) σ = some (1, σ') ∧ FR FRT_71 σ σ' ∧ TB_71 q (esw T r k) σ'
  | 0, n, j, σ, hj, hn, h2, h3, hT => by
    obtain ⟨n, rfl⟩ : ∃ m, n = m + 1 := ⟨n - 1, by omega⟩
    refine ⟨σ, ?_, FR_refl _ _, fun r' c hr' hc => (hT r' c hr' hc).trans (if_pos (by omega))⟩
    unfold j_bringUp_71_L25 j_bringUp_71_H25
    rw [h2, if_pos (nI_le (by omega) (by omega))]
  | d + 1, n, j, σ, hj, hn, h2, h3, hT => by
    obtain ⟨n, rfl⟩ : ∃ m, n = m + 1 := ⟨n - 1, by omega⟩
    have v1 : σ.2 (72 + 1 + k) j = T k j := (hT k j hk (by omega)).trans (if_neg (by omega))
    have v2 : σ.2 (72 + 1 + r) j = T r j := (hT r j hr (by omega)).trans (if_neg (by omega))
    have step : j_bringUp_71_L25 (n + 1) (nI r) (nI j) σ = j_bringUp_71_L25 n (nI r) (nI (j + 1)) (sl (sl σ (72 + 1 + r) j (T k j)) (72 + 1 + k) j (T r j)) := by
      show j_bringUp_71_H25 (j_bringUp_71_L25 n) (nI r) (nI j) σ = _
      unfold j_bringUp_71_H25
      have cr : (nI r).toNatClampNeg = r := cl_n (by omega)
      have ck' : (nI k).toNatClampNeg = k := cl_n (by omega)
      have cj : (nI j).toNatClampNeg = j := cl_n (by omega)
      have i1 : inB (nI r) 5 = true := inB_t hr (by omega)
      have i2 : inB (nI k) 5 = true := inB_t hk (by omega)
      have a1 : arB 1 (72 + 1 + r) (nI j) = true := ar_cho hr (by omega)
      have a2 : arB 1 (72 + 1 + k) (nI j) = true := ar_cho hk (by omega)
      rw [h2, if_neg (nI_ge (by omega) (by omega))]
      simp only [sl_i, h3, cr, ck', cj, i1, i2, a1, a2, gd_t, v1, v2, nI_1]
    rw [step]
    obtain ⟨σ', e1, e2, e3⟩ := bring_in_71 (T := T) hq hk hr d n (j + 1) (sl (sl σ (72 + 1 + r) j (T k j)) (72 + 1 + k) j (T r j)) (by omega) (by omega) (by rw [sl_i, sl_i]; exact h2) (by rw [sl_i, sl_i]; exact h3) (by
      refine TB_set_71 (TB_set_71 hT (T' := fun r' c => if r' = r ∧ c = j then T k j else if c < j then esw T r k r' c else T r' c) (fun r' c _ _ => rfl)) ?_
      intro r' c hr' hc
      by_cases g : c < j
      · rw [if_pos (by omega), if_neg (by omega), if_neg (by omega), if_pos g]
      · by_cases g2 : c = j
        · subst g2
          rw [if_pos (by omega)]
          unfold esw
          by_cases q1 : r' = r <;> by_cases q2 : r' = k
          · subst q1; subst q2; simp
          · subst q1; simp [q2]
          · subst q2; simp [q1]
          · simp [q1, q2]
        · rw [if_neg (by omega), if_neg (by omega), if_neg (by omega), if_neg g])
    exact ⟨σ', e1, FR_trans (FR_sl (FR_sl (FR_refl _ _) (FRT_in_71 hr)) (FRT_in_71 hk)) e2, e3⟩
theorem bring_71 {q k c : Nat} {T : Nat → Nat → Int64} (hq : q ≤ 8) (hc : c < q) : ∀ (d n r : Nat) (σ : Sg), r + d = 5 → k ≤ r → d < n → σ.1 71 2 = nI q → σ.1 71 3 = nI k → TB_71 q T σ → (efr T c d r = none → j_bringUp_71_L5 n (nI c) (nI r) σ = some (0, σ)) ∧ (∀ x, efr T c d r = some x → k < 5 → x < 5 → ∃ σ', j_bringUp_71_L5 n (nI c) (nI r) σ = some (1, σ') ∧ FR FRT_71 σ σ' ∧ TB_71 q (esw T x k) σ')
  | 0, n, r, σ, hr, hkr, hn, h2, h3, hT => by
    obtain ⟨n, rfl⟩ : ∃ m, n = m + 1 := ⟨n - 1, by omega⟩
    refine ⟨fun _ => ?_, fun x hx => by cases hx⟩
    obtain rfl : r = 5 := by omega
    unfold j_bringUp_71_L5 j_bringUp_71_H5
    rw [if_pos (show (5 : Int32) ≤ nI 5 by decide)]
  | d + 1, n, r, σ, hr, hkr, hn, h2, h3, hT => by
    obtain ⟨n, rfl⟩ : ∃ m, n = m + 1 := ⟨n - 1, by omega⟩
    have ih := bring_71 (k := k) (T := T) hq hc d n (r + 1) σ (by omega) (by omega) (by omega) h2 h3 hT
    have cr : (nI r).toNatClampNeg = r := cl_n (by omega)
    have cc : (nI c).toNatClampNeg = c := cl_n (by omega)
    have e : j_bringUp_71_L5 (n + 1) (nI c) (nI r) σ = if T r c = 0 then j_bringUp_71_L5 n (nI c) (nI (r + 1)) σ else j_bringUp_71_L25 fu (nI r) (nI 0) σ := by
      show j_bringUp_71_H5 (j_bringUp_71_L5 n) (nI c) (nI r) σ = _
      unfold j_bringUp_71_H5
      rw [if_neg (show ¬ (5 : Int32) ≤ nI r from nI_ge (b := 5) (by omega) (by decide)), inB_t (by omega) (by omega), gd_t, cr, ar_cho (by omega) (by omega), gd_t, cc, hT r c (by omega) hc, nI_1]
      by_cases g : T r c = 0
      · rw [if_pos (cmp_eq.mpr g), if_pos g]
      · rw [if_neg (fun w => g (cmp_eq.mp w)), if_neg g]; rfl
    rw [e]
    unfold efr
    by_cases g : T r c = 0
    · rw [if_pos g, if_pos g]; exact ih
    · rw [if_neg g, if_neg g]
      refine ⟨fun h => (by cases h), fun x hx hk hx5 => ?_⟩
      obtain rfl : r = x := by simpa using hx
      exact bring_in_71 hq hk hx5 q fu 0 σ (by omega) (by unfold fu; omega) h2 h3 (fun r' c' hr' hc' => (hT r' c' hr' hc').trans (if_neg (by omega)).symm)
theorem clr_in_71 {k15 : Int32 → Int64 → Int32 → Sg → Option (Unit × Sg)} {q k c r : Nat} {T : Nat → Nat → Int64} {p f sc : Int64} (hq : q ≤ 8) (hk : k < 5) (hr : r < 5) (hne : r ≠ k) (hsc : sc ≠ 0) : ∀ (d n j : Nat) (σ : Sg), j + d = q → d < n → σ.1 71 2 = nI q → σ.1 71 3 = nI k → σ.2 71 5 = sc → TB_71 q (fun r' c' => if r' = r ∧ c' < j then (T r' c' * p - f * T k c') / sc else T r' c') σ → ∃ σ', j_clearOthers_71_L35 k15 n (nI c) p (nI r) f (nI j) σ = k15 (nI c) p (nI (r + 1)) σ' ∧ FR FRT_71 σ σ' ∧ TB_71 q (fun r' c' => if r' = r then (T r' c' * p - f * T k c') / sc else T r' c') σ'
  | 0, n, j, σ, hj, hn, h2, h3, h5, hT => by
    obtain ⟨n, rfl⟩ : ∃ m, n = m + 1 := ⟨n - 1, by omega⟩
    refine ⟨σ, ?_, FR_refl _ _, ?_⟩
    · show j_clearOthers_71_H35 k15 (j_clearOthers_71_L35 k15 n) (nI c) p (nI r) f (nI j) σ = _
      unfold j_clearOthers_71_H35 j_clearOthers_71_b115
      rw [h2, if_pos (nI_le (by omega) (by omega)), nI_1]
    · intro r' c' hr' hc'
      rw [hT r' c' hr' hc']
      dsimp only
      by_cases e : r' = r
      · rw [if_pos ⟨e, by omega⟩, if_pos e]
      · rw [if_neg (fun w => e w.1), if_neg e]
  | d + 1, n, j, σ, hj, hn, h2, h3, h5, hT => by
    obtain ⟨n, rfl⟩ : ∃ m, n = m + 1 := ⟨n - 1, by omega⟩
    have v1 : σ.2 (72 + 1 + k) j = T k j := (hT k j hk (by omega)).trans (if_neg (fun w => hne w.1.symm))
    have v2 : σ.2 (72 + 1 + r) j = T r j := (hT r j hr (by omega)).trans (if_neg (fun w => by omega))
    have step : j_clearOthers_71_L35 k15 (n + 1) (nI c) p (nI r) f (nI j) σ = j_clearOthers_71_L35 k15 n (nI c) p (nI r) f (nI (j + 1)) (sl σ (72 + 1 + r) j ((T r j * p - f * T k j) / sc)) := by
      show j_clearOthers_71_H35 k15 (j_clearOthers_71_L35 k15 n) (nI c) p (nI r) f (nI j) σ = _
      unfold j_clearOthers_71_H35
      have cr : (nI r).toNatClampNeg = r := cl_n (by omega)
      have ck' : (nI k).toNatClampNeg = k := cl_n (by omega)
      have cj : (nI j).toNatClampNeg = j := cl_n (by omega)
      have i1 : inB (nI r) 5 = true := inB_t hr (by omega)
      have i2 : inB (nI k) 5 = true := inB_t hk (by omega)
      have a1 : arB 1 (72 + 1 + r) (nI j) = true := ar_cho hr (by omega)
      have a2 : arB 1 (72 + 1 + k) (nI j) = true := ar_cho hk (by omega)
      have ns : neBL sc = true := by simp [neBL, hsc]
      rw [h2, if_neg (nI_ge (by omega) (by omega)), h3, if_neg (fun e => hne ((nI_eq (by omega) (by omega)).mp e)), h5, if_neg (fun w => hsc (cmp_eq.mp w))]
      simp only [cr, ck', cj, i1, i2, a1, a2, ns, gd_t, v1, v2, nI_1]
    rw [step]
    obtain ⟨σ', e1, e2, e3⟩ := clr_in_71 (k15 := k15) (c := c) (T := T) (p := p) (f := f) hq hk hr hne hsc d n (j + 1) (sl σ (72 + 1 + r) j ((T r j * p - f * T k j) / sc)) (by omega) (by omega) (by rw [sl_i]; exact h2) (by rw [sl_i]; exact h3) (by rw [sl_c (by omega)]; exact h5) (by
      refine TB_set_71 hT ?_
      intro r' c' hr' hc'
      by_cases e : r' = r
      · subst e
        by_cases e2 : c' = j
        · subst e2; rw [if_pos ⟨rfl, by omega⟩, if_pos ⟨rfl, rfl⟩]
        · by_cases e3 : c' < j
          · rw [if_pos ⟨rfl, by omega⟩, if_neg (fun w => e2 w.2), if_pos ⟨rfl, e3⟩]
          · rw [if_neg (fun w => by omega), if_neg (fun w => e2 w.2), if_neg (fun w => e3 w.2)]
      · rw [if_neg (fun w => e w.1), if_neg (fun w => e w.1), if_neg (fun w => e w.1)])
    exact ⟨σ', e1, FR_trans (FR_sl (FR_refl _ _) (FRT_in_71 hr)) e2, e3⟩
theorem clr_71 {q k c : Nat} {T : Nat → Nat → Int64} {sc : Int64} (hq : q ≤ 8) (hc : c < q) (hk : k < 5) (hsc : sc ≠ 0) : ∀ (d n r : Nat) (σ : Sg), r + d = 5 → d < n → σ.1 71 2 = nI q → σ.1 71 3 = nI k → σ.2 71 5 = sc → TB_71 q (fun r' c' => if r' < r then ecl T k c sc r' c' else T r' c') σ → ∃ σ', j_clearOthers_71_L15 n (nI c) (T k c) (nI r) σ = some ((), sl σ' 71 5 (T k c)) ∧ FR FRT_71 σ σ' ∧ TB_71 q (ecl T k c sc) σ'
  | 0, n, r, σ, hr, hn, h2, h3, h5, hT => by
    obtain ⟨n, rfl⟩ : ∃ m, n = m + 1 := ⟨n - 1, by omega⟩
    obtain rfl : r = 5 := by omega
    refine ⟨σ, ?_, FR_refl _ _, fun r' c' hr' hc' => (hT r' c' hr' hc').trans (if_pos hr')⟩
    show j_clearOthers_71_H15 (j_clearOthers_71_L15 n) (nI c) (T k c) (nI 5) σ = _
    unfold j_clearOthers_71_H15
    rw [if_pos (show (5 : Int32) ≤ nI 5 by decide)]
  | d + 1, n, r, σ, hr, hn, h2, h3, h5, hT => by
    obtain ⟨n, rfl⟩ : ∃ m, n = m + 1 := ⟨n - 1, by omega⟩
    have v : σ.2 (72 + 1 + r) c = T r c := (hT r c (by omega) hc).trans (if_neg (by omega))
    have step : j_clearOthers_71_L15 (n + 1) (nI c) (T k c) (nI r) σ = j_clearOthers_71_L35 (j_clearOthers_71_L15 n) fu (nI c) (T k c) (nI r) (T r c) (nI 0) σ := by
      show j_clearOthers_71_H15 (j_clearOthers_71_L15 n) (nI c) (T k c) (nI r) σ = _
      unfold j_clearOthers_71_H15
      have cr : (nI r).toNatClampNeg = r := cl_n (by omega)
      have cc : (nI c).toNatClampNeg = c := cl_n (by omega)
      rw [if_neg (show ¬ (5 : Int32) ≤ nI r from nI_ge (b := 5) (by omega) (by decide)), inB_t (by omega) (by omega), gd_t, cr, ar_cho (by omega) (by omega), gd_t, cc, v]; rfl
    rw [step]
    by_cases e : r = k
    · have s2 : j_clearOthers_71_L35 (j_clearOthers_71_L15 n) fu (nI c) (T k c) (nI r) (T r c) (nI 0) σ = j_clearOthers_71_L15 n (nI c) (T k c) (nI (r + 1)) σ := by
        show j_clearOthers_71_H35 (j_clearOthers_71_L15 n) (j_clearOthers_71_L35 (j_clearOthers_71_L15 n) 19999) (nI c) (T k c) (nI r) (T r c) (nI 0) σ = _
        unfold j_clearOthers_71_H35 j_clearOthers_71_b115
        rw [h2, if_neg (nI_ge (by omega) (by omega)), h3, if_pos (by rw [e]), nI_1]
      rw [s2]
      refine clr_71 hq hc hk hsc d n (r + 1) σ (by omega) (by omega) h2 h3 h5 ?_
      intro r' c' hr' hc'
      rw [hT r' c' hr' hc']
      dsimp only
      by_cases g : r' < r
      · rw [if_pos g, if_pos (by omega)]
      · by_cases g2 : r' = r
        · rw [if_neg g, if_pos (by omega)]
          unfold ecl
          rw [if_pos (by omega)]
        · rw [if_neg g, if_neg (by omega)]
    · obtain ⟨σ1, w1, w2, w3⟩ := clr_in_71 (k15 := j_clearOthers_71_L15 n) (c := c) (p := T k c) (f := T r c) (T := fun r' c' => if r' < r then ecl T k c sc r' c' else T r' c') hq hk (show r < 5 by omega) e hsc q fu 0 σ (by omega) (by unfold fu; omega) h2 h3 h5 (fun r' c' hr' hc' => (hT r' c' hr' hc').trans (if_neg (by omega)).symm)
      have f1 : σ1.1 71 = σ.1 71 := FR_i w2 (by decide)
      have f2 : σ1.2 71 = σ.2 71 := FR_l w2 (by decide)
      obtain ⟨σ', g1, g2, g3⟩ := clr_71 (T := T) hq hc hk hsc d n (r + 1) σ1 (by omega) (by omega) (by rw [f1]; exact h2) (by rw [f1]; exact h3) (by rw [f2]; exact h5) (by
        intro r' c' hr' hc'
        rw [w3 r' c' hr' hc']
        dsimp only
        have hk' : (if k < r then ecl T k c sc k c' else T k c') = T k c' := by
          by_cases g : k < r
          · rw [if_pos g]; unfold ecl; rw [if_pos rfl]
          · rw [if_neg g]
        by_cases g : r' = r
        · subst g
          rw [if_pos rfl, if_neg (Nat.lt_irrefl r'), hk', if_pos (Nat.lt_succ_self r')]
          unfold ecl
          rw [if_neg e]
        · rw [if_neg g]
          by_cases g2 : r' < r
          · rw [if_pos g2, if_pos (by omega)]
          · rw [if_neg g2, if_neg (by omega)])
      exact ⟨σ', by rw [w1]; exact g1, FR_trans w2 g2, g3⟩
