/-! ===== PURE: the class's run, object 71 ===== -/
def FRE_71 : List Nat := [71, 73, 74, 75, 76, 77, 78]
theorem run_in_71 {q set : Nat} {A : Nat → Nat → Int64} (hq : q ≤ 8) (hset : set < 256) (hsc : ∀ c, c ≤ q → (ets A set c).2.2.2.2 ≠ 0) : ∀ (d n c : Nat) (σ : Sg), c + d = q → d < n → EL 71 72 78 q (ets A set c) σ → ∃ σ', j_run_71_52_L74 n (nI set) (nI c) σ = some ((), σ') ∧ FR FRE_71 σ σ' ∧ EL 71 72 78 q (ets A set q) σ'
  | 0, n, c, σ, hc, hn, hE => by
    obtain ⟨n, rfl⟩ : ∃ m, n = m + 1 := ⟨n - 1, by omega⟩
    obtain rfl : c = q := by omega
    refine ⟨σ, ?_, FR_refl _ _, hE⟩
    show j_run_71_52_H74 (j_run_71_52_L74 n) (nI set) (nI c) σ = _
    unfold j_run_71_52_H74
    rw [hE.1, if_pos (nI_le (by omega) (by omega))]
  | d + 1, n, c, σ, hc, hn, hE => by
    obtain ⟨n, rfl⟩ : ∃ m, n = m + 1 := ⟨n - 1, by omega⟩
    obtain ⟨e1, e2, e3, e4, e5, e6⟩ := hE
    have go : ∀ τ, j_run_71_52_b142 (j_run_71_52_L74 n) (nI set) (nI c) τ = j_run_71_52_L74 n (nI set) (nI (c + 1)) τ := by
      intro τ; unfold j_run_71_52_b142; rw [nI_1]
    have e0 : j_run_71_52_L74 (n + 1) (nI set) (nI c) σ = if set.testBit c = true then bd (j_bringUp_71 (nI c) σ) (fun r2 σ2 => if r2 = 0 then j_run_71_52_L74 n (nI set) (nI (c + 1)) σ2 else bd (j_clearOthers_71 (nI c) σ2) fun _ σ3 => gd (inB (nI c) 8) (j_run_71_52_L74 n (nI set) (nI (c + 1)) (si (si (si σ3 78 c (σ3.1 71 3)) 71 4 (((si σ3 78 c (σ3.1 71 3)).1 71 4) ||| ((1 : Int32) <<< (nI c &&& 31)))) 71 3 (((si (si σ3 78 c (σ3.1 71 3)) 71 4 (((si σ3 78 c (σ3.1 71 3)).1 71 4) ||| ((1 : Int32) <<< (nI c &&& 31)))).1 71 3) + 1)))) else j_run_71_52_L74 n (nI set) (nI (c + 1)) σ := by
      show j_run_71_52_H74 (j_run_71_52_L74 n) (nI set) (nI c) σ = _
      unfold j_run_71_52_H74
      rw [e1, if_neg (nI_ge (by omega) (by omega)), j_bit_eq hset (by omega), bd_s, cl_n (by omega)]
      simp only [go]
      cases set.testBit c <;> rfl
    have hl := ets_lt A set c
    have hrk := ets_rk A set c
    have hstep : ets A set (c + 1) = est1 set c (ets A set c) := rfl
    have hp8 : 2 ^ c ≤ 128 := by have := pw_le (show c ≤ 7 by omega); omega
    by_cases hs : set.testBit c = true
    · have hbr := bring_71 (k := (ets A set c).2.1) (c := c) (T := (ets A set c).1) hq (by omega) (5 - (ets A set c).2.1) fu (ets A set c).2.1 σ (by omega) (Nat.le_refl _) (by unfold fu; omega) e1 e2 e5
      have hb0 : j_bringUp_71 (nI c) σ = j_bringUp_71_L5 fu (nI c) (nI (ets A set c).2.1) σ := by unfold j_bringUp_71; rw [e2]
      rw [e0, if_pos hs, hb0]
      cases hf : efr (ets A set c).1 c (5 - (ets A set c).2.1) (ets A set c).2.1 with
      | none =>
        rw [hbr.1 hf, bd_s, if_pos rfl]
        have hsame : ets A set (c + 1) = ets A set c := by
          rw [hstep]; unfold est1; rw [if_pos hs, hf]
        exact run_in_71 hq hset hsc d n (c + 1) σ (by omega) (by omega) (by rw [hsame]; exact ⟨e1, e2, e3, e4, e5, e6⟩)
      | some r =>
        obtain ⟨g1, g2, g3⟩ := efr_some hf
        have hk : (ets A set c).2.1 < 5 := by omega
        obtain ⟨σ2, w1, w2, w3⟩ := hbr.2 r hf hk (by omega)
        rw [w1, bd_s, if_neg (by decide)]
        have f1 : σ2.1 71 = σ.1 71 := FR_i w2 (by decide)
        have f2 : σ2.2 71 = σ.2 71 := FR_l w2 (by decide)
        have f3 : σ2.1 78 = σ.1 78 := FR_i w2 (by decide)
        obtain ⟨σ3, x1, x2, x3⟩ := clr_71 (k := (ets A set c).2.1) (c := c) (T := esw (ets A set c).1 r (ets A set c).2.1) (sc := (ets A set c).2.2.2.2) hq (by omega) hk (hsc c (by omega)) 5 fu 0 σ2 (by omega) (by unfold fu; omega) (by rw [f1]; exact e1) (by rw [f1]; exact e2) (by rw [f2]; exact e4) (fun r' c' hr' hc' => (w3 r' c' hr' hc').trans (if_neg (by omega)).symm)
        have hcl : j_clearOthers_71 (nI c) σ2 = some ((), sl σ3 71 5 (esw (ets A set c).1 r (ets A set c).2.1 (ets A set c).2.1 c)) := by
          unfold j_clearOthers_71
          rw [f1, e2, inB_t (by omega) (by omega), gd_t, cl_n (by omega), ar_cho hk (by omega), gd_t, cl_n (by omega), w3 _ _ hk (by omega)]
          exact x1
        rw [hcl, bd_s, inB_t (by omega) (by omega), gd_t]
        have f4 : σ3.1 71 = σ.1 71 := (FR_i x2 (by decide)).trans f1
        have f5 : σ3.2 71 = σ.2 71 := (FR_l x2 (by decide)).trans f2
        have f6 : σ3.1 78 = σ.1 78 := (FR_i x2 (by decide)).trans f3
        generalize hP : esw (ets A set c).1 r (ets A set c).2.1 (ets A set c).2.1 c = pv at *
        have hfin : (si (si (si (sl σ3 71 5 pv) 78 c ((sl σ3 71 5 pv).1 71 3)) 71 4 (((si (sl σ3 71 5 pv) 78 c ((sl σ3 71 5 pv).1 71 3)).1 71 4) ||| ((1 : Int32) <<< (nI c &&& 31)))) 71 3 (((si (si (sl σ3 71 5 pv) 78 c ((sl σ3 71 5 pv).1 71 3)) 71 4 (((si (sl σ3 71 5 pv) 78 c ((sl σ3 71 5 pv).1 71 3)).1 71 4) ||| ((1 : Int32) <<< (nI c &&& 31)))).1 71 3) + 1)) = si (si (si (sl σ3 71 5 pv) 78 c (nI (ets A set c).2.1)) 71 4 (nI ((ets A set c).2.2.1 + 2 ^ c))) 71 3 (nI ((ets A set c).2.1 + 1)) := by
          have h3 : (sl σ3 71 5 pv).1 71 3 = nI (ets A set c).2.1 := by rw [sl_i, f4]; exact e2
          have h4 : (si (sl σ3 71 5 pv) 78 c (nI (ets A set c).2.1)).1 71 4 = nI (ets A set c).2.2.1 := by rw [si_c (by omega), sl_i, f4]; exact e3
          rw [h3, h4, or_eq c (by omega) _ (by omega) hl, si_j (by omega : (3 : Nat) ≠ 4), si_c (by omega : (71 : Nat) ≠ 78), h3, nI_1]
        rw [hfin]
        obtain ⟨σ', y1, y2, y3⟩ := run_in_71 (A := A) hq hset hsc d n (c + 1) (si (si (si (sl σ3 71 5 pv) 78 c (nI (ets A set c).2.1)) 71 4 (nI ((ets A set c).2.2.1 + 2 ^ c))) 71 3 (nI ((ets A set c).2.1 + 1))) (by omega) (by omega) (by
          have hnew : ets A set (c + 1) = (ecl (esw (ets A set c).1 r (ets A set c).2.1) (ets A set c).2.1 c (ets A set c).2.2.2.2, (ets A set c).2.1 + 1, (ets A set c).2.2.1 + 2 ^ c, (fun j => if j = c then (ets A set c).2.1 else (ets A set c).2.2.2.1 j), pv) := by
            rw [hstep]; unfold est1; rw [if_pos hs, hf, ← hP]
          rw [hnew]
          refine ⟨?_, ?_, ?_, ?_, ?_, ?_⟩
          · rw [si_j (by omega), si_j (by omega), si_c (by omega), sl_i, f4]; exact e1
          · rw [si_e]
          · rw [si_j (by omega), si_e]
          · rw [si_l, si_l, si_l, sl_e]
          · intro r' c' hr' hc'
            rw [si_l, si_l, si_l, sl_c (by omega)]
            exact x3 r' c' hr' hc'
          · intro c' hc' hb
            rw [si_c (by omega), si_c (by omega)]
            by_cases g : c' = c
            · subst g; rw [si_e]; show _ = nI (if c' = c' then _ else _); rw [if_pos rfl]
            · rw [si_j g, sl_i, f6]
              show _ = nI (if c' = c then _ else _)
              rw [if_neg g]
              apply e6 c' hc'
              have hb' : ((ets A set c).2.2.1 + 2 ^ c).testBit c' = true := hb
              rw [Nat.add_comm] at hb'
              rcases Nat.lt_trichotomy c' c with w | w | w
              · rwa [Nat.testBit_two_pow_add_gt w] at hb'
              · exact absurd w g
              · have h5 := pw_le (show c + 1 ≤ c' by omega)
                have h6 : 2 ^ (c + 1) = 2 ^ c + 2 ^ c := by rw [Nat.pow_succ]; omega
                rw [Nat.testBit_lt_two_pow (by omega)] at hb'; cases hb')
        refine ⟨σ', y1, ?_, y3⟩
        refine FR_trans ?_ y2
        refine FR_si (FR_si (FR_si (FR_sl ?_ (by decide)) (by decide)) (by decide)) (by decide)
        exact FR_trans (FR_mono (by decide) w2) (FR_mono (by decide) x2)
    · rw [e0, if_neg hs]
      have hsame : ets A set (c + 1) = ets A set c := by
        rw [hstep]; unfold est1; rw [if_neg hs]
      exact run_in_71 hq hset hsc d n (c + 1) σ (by omega) (by omega) (by rw [hsame]; exact ⟨e1, e2, e3, e4, e5, e6⟩)
