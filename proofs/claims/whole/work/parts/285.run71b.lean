/-! ===== PURE: the class's run as a whole, object 71 ===== -/
def PB_71 (q u j : Nat) (A : Nat → Nat → Int64) (σ : Sg) : Prop := ∀ r c, r < 5 → c < q → (r < u ∨ (r = u ∧ c < j)) → σ.2 (72 + 1 + r) c = A r c
theorem fill_in_71 {k23 : Int32 → Int32 → Sg → Option (Unit × Sg)} {q u : Nat} {set : Int32} {A : Nat → Nat → Int64} (hq : q ≤ 8) (hu : u < 5) : ∀ (d n j : Nat) (σ : Sg), j + d = q → d < n → σ.1 71 2 = nI q → PW q A σ → PB_71 q u j A σ → ∃ σ', j_run_71_52_L32 k23 n set (nI u) (nI j) σ = k23 set (nI (u + 1)) σ' ∧ FR FRT_71 σ σ' ∧ PB_71 q (u + 1) 0 A σ'
  | 0, n, j, σ, hj, hn, h2, hA, hP => by
    obtain ⟨n, rfl⟩ : ∃ m, n = m + 1 := ⟨n - 1, by omega⟩
    refine ⟨σ, ?_, FR_refl _ _, fun r c hr hc h => hP r c hr hc (by omega)⟩
    show j_run_71_52_H32 k23 (j_run_71_52_L32 k23 n) set (nI u) (nI j) σ = _
    unfold j_run_71_52_H32
    rw [h2, if_pos (nI_le (by omega) (by omega)), nI_1]
  | d + 1, n, j, σ, hj, hn, h2, hA, hP => by
    obtain ⟨n, rfl⟩ : ∃ m, n = m + 1 := ⟨n - 1, by omega⟩
    have step : j_run_71_52_L32 k23 (n + 1) set (nI u) (nI j) σ = j_run_71_52_L32 k23 n set (nI u) (nI (j + 1)) (sl σ (72 + 1 + u) j (A u j)) := by
      show j_run_71_52_H32 k23 (j_run_71_52_L32 k23 n) set (nI u) (nI j) σ = _
      unfold j_run_71_52_H32
      have cu : (nI u).toNatClampNeg = u := cl_n (by omega)
      have cj : (nI j).toNatClampNeg = j := cl_n (by omega)
      have i1 : inB (nI u) 5 = true := inB_t hu (by omega)
      have i2 : inB (nI j) 8 = true := inB_t (by omega) (by omega)
      have a1 : arB 0 (52 + 1 + j) (nI u) = true := ar_pow (by omega) hu
      have a2 : arB 1 (72 + 1 + u) (nI j) = true := ar_cho hu (by omega)
      rw [h2, if_neg (nI_ge (by omega) (by omega))]
      simp only [cu, cj, i1, i2, a1, a2, gd_t, nI_1, hA j u (by omega) hu]
    rw [step]
    obtain ⟨σ', e1, e2, e3⟩ := fill_in_71 (k23 := k23) (set := set) (A := A) hq hu d n (j + 1) (sl σ (72 + 1 + u) j (A u j)) (by omega) (by omega) (by rw [sl_i]; exact h2) (fun k u' hk hu' => by rw [sl_i]; exact hA k u' hk hu') (by
      intro r c hr hc h
      by_cases e : r = u ∧ c = j
      · obtain ⟨rfl, rfl⟩ := e; rw [sl_e]
      · by_cases e2 : r = u
        · subst e2; rw [sl_j (fun w => e ⟨rfl, w⟩)]; exact hP r c hr hc (by omega)
        · rw [sl_c (by omega)]; exact hP r c hr hc (by omega))
    exact ⟨σ', e1, FR_trans (FR_sl (FR_refl _ _) (FRT_in_71 hu)) e2, e3⟩
theorem fill_71 {q : Nat} {set : Int32} {A : Nat → Nat → Int64} (hq : q ≤ 8) : ∀ (d n u : Nat) (σ : Sg), u + d = 5 → d < n → σ.1 71 2 = nI q → PW q A σ → PB_71 q u 0 A σ → ∃ σ', j_run_71_52_L23 n set (nI u) σ = j_run_71_52_L74 fu set (nI 0) σ' ∧ FR FRT_71 σ σ' ∧ TB_71 q A σ'
  | 0, n, u, σ, hu, hn, h2, hA, hP => by
    obtain ⟨n, rfl⟩ : ∃ m, n = m + 1 := ⟨n - 1, by omega⟩
    obtain rfl : u = 5 := by omega
    refine ⟨σ, ?_, FR_refl _ _, fun r c hr hc => hP r c hr hc (by omega)⟩
    show j_run_71_52_H23 (j_run_71_52_L23 n) set (nI 5) σ = _
    unfold j_run_71_52_H23
    rw [if_pos (show (5 : Int32) ≤ nI 5 by decide)]; rfl
  | d + 1, n, u, σ, hu, hn, h2, hA, hP => by
    obtain ⟨n, rfl⟩ : ∃ m, n = m + 1 := ⟨n - 1, by omega⟩
    have step : j_run_71_52_L23 (n + 1) set (nI u) σ = j_run_71_52_L32 (j_run_71_52_L23 n) fu set (nI u) (nI 0) σ := by
      show j_run_71_52_H23 (j_run_71_52_L23 n) set (nI u) σ = _
      unfold j_run_71_52_H23
      rw [if_neg (show ¬ (5 : Int32) ≤ nI u from nI_ge (b := 5) (by omega) (by decide))]; rfl
    obtain ⟨σ1, e1, e2, e3⟩ := fill_in_71 (k23 := j_run_71_52_L23 n) (set := set) hq (show u < 5 by omega) q fu 0 σ (by omega) (by unfold fu; omega) h2 hA hP
    have hA1 : PW q A σ1 := by
      intro k u' hk hu'
      rw [FR_i e2 (c := 52 + 1 + k) (by
        have : ∀ k, k < 8 → FRT_71.contains (52 + 1 + k) = false := by decide
        exact this k (by omega))]
      exact hA k u' hk hu'
    obtain ⟨σ2, g1, g2, g3⟩ := fill_71 (set := set) (A := A) hq d n (u + 1) σ1 (by omega) (by omega) (by rw [FR_i e2 (c := 71) (by decide)]; exact h2) hA1 e3
    exact ⟨σ2, by rw [step, e1, g1], FR_trans e2 g2, g3⟩
theorem run_71 {q set : Nat} {A : Nat → Nat → Int64} {σ : Sg} (hq : q ≤ 8) (hset : set < 256) (hsc : ∀ c, c ≤ q → (ets A set c).2.2.2.2 ≠ 0) (hA : PW q A σ) : ∃ σ', j_run_71_52 (nI q) (nI set) σ = some ((), σ') ∧ FR FRE_71 σ σ' ∧ EL 71 72 78 q (ets A set q) σ' := by
  have hA1 : PW q A (sl (si (si (si σ 71 2 (nI q)) 71 3 0) 71 4 0) 71 5 1) := by
    intro k u hk hu
    rw [sl_i, si_c (by omega), si_c (by omega), si_c (by omega)]; exact hA k u hk hu
  obtain ⟨σ1, e1, e2, e3⟩ := fill_71 (set := nI set) hq 5 fu 0 (sl (si (si (si σ 71 2 (nI q)) 71 3 0) 71 4 0) 71 5 1) (by omega) (by unfold fu; omega) (by rw [sl_i, si_j (by omega), si_j (by omega), si_e]) hA1 (fun r c _ _ h => by omega)
  have f1 : σ1.1 71 = (sl (si (si (si σ 71 2 (nI q)) 71 3 0) 71 4 0) 71 5 1).1 71 := FR_i e2 (by decide)
  have f2 : σ1.2 71 = (sl (si (si (si σ 71 2 (nI q)) 71 3 0) 71 4 0) 71 5 1).2 71 := FR_l e2 (by decide)
  obtain ⟨σ2, g1, g2, g3⟩ := run_in_71 (A := A) hq hset hsc q fu 0 σ1 (by omega) (by unfold fu; omega) ⟨by rw [f1, sl_i, si_j (by omega), si_j (by omega), si_e], by rw [f1, sl_i, si_j (by omega), si_e]; rfl, by rw [f1, sl_i, si_e]; rfl, by rw [f2, sl_e]; rfl, e3, fun c hc hb => by simp [ets] at hb⟩
  refine ⟨σ2, ?_, ?_, g3⟩
  · unfold j_run_71_52
    rw [show (0 : Int32) = nI 0 from rfl] at *
    rw [e1, g1]
  · refine FR_trans (FR_trans ?_ (FR_mono (by decide) e2)) g2
    exact FR_sl (FR_si (FR_si (FR_si (FR_refl _ _) (by decide)) (by decide)) (by decide)) (by decide)
