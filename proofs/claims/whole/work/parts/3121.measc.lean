/-! ===== PURE: measure, out of the class's own cells ===== -/
theorem efr_cg {T T' : Nat → Nat → Int64} {c : Nat} : ∀ {n r : Nat}, r + n ≤ 5 → (∀ x, x < 5 → T x c = T' x c) → efr T c n r = efr T' c n r
  | 0, r, _, _ => rfl
  | n + 1, r, h, he => by
    unfold efr
    rw [he r (by omega), efr_cg (n := n) (r := r + 1) (by omega) he]
theorem ets_cgA {A A' : Nat → Nat → Int64} {q S : Nat} (h : ∀ r c, r < 5 → c < q → A r c = A' r c) : ∀ c, c ≤ q → (∀ r j, r < 5 → j < q → (ets A S c).1 r j = (ets A' S c).1 r j) ∧ (ets A S c).2 = (ets A' S c).2
  | 0, _ => ⟨h, rfl⟩
  | c + 1, hc => by
    obtain ⟨i1, i2⟩ := ets_cgA h c (by omega)
    have hk := ets_rk A S c
    show (∀ r j, r < 5 → j < q → (est1 S c (ets A S c)).1 r j = (est1 S c (ets A' S c)).1 r j) ∧ (est1 S c (ets A S c)).2 = (est1 S c (ets A' S c)).2
    unfold est1
    by_cases hs : S.testBit c = true
    · rw [if_pos hs, if_pos hs, ← i2, ← efr_cg (T := (ets A S c).1) (T' := (ets A' S c).1) (by omega) (fun x hx => i1 x c hx (by omega))]
      cases hf : efr (ets A S c).1 c (5 - (ets A S c).2.1) (ets A S c).2.1 with
      | none => exact ⟨i1, i2⟩
      | some x =>
        obtain ⟨g1, g2, g3⟩ := efr_some hf
        have hsw : ∀ r j, r < 5 → j < q → esw (ets A S c).1 x (ets A S c).2.1 r j = esw (ets A' S c).1 x (ets A S c).2.1 r j := by
          intro r j hr hj
          unfold esw
          rw [i1 _ j (show (ets A S c).2.1 < 5 by omega) hj, i1 x j (by omega) hj, i1 r j hr hj]
        have hk5 : (ets A S c).2.1 < 5 := by omega
        refine ⟨?_, ?_⟩
        · intro r j hr hj
          show ecl _ _ c _ r j = ecl _ _ c _ r j
          unfold ecl
          rw [hsw r j hr hj, hsw _ c hk5 (by omega), hsw r c hr (by omega), hsw _ j hk5 hj]
        · show ((ets A S c).2.1 + 1, (ets A S c).2.2.1 + 2 ^ c, _, _) = ((ets A S c).2.1 + 1, (ets A S c).2.2.1 + 2 ^ c, _, _)
          rw [hsw _ c hk5 (by omega)]
    · rw [if_neg hs, if_neg hs]; exact ⟨i1, i2⟩
theorem EL_cg {o t w q : Nat} {s s' : ET} {σ : Sg} (h : EL o t w q s σ) (h1 : ∀ r j, r < 5 → j < q → s'.1 r j = s.1 r j) (h2 : s'.2 = s.2) : EL o t w q s' σ := by
  obtain ⟨a1, a2, a3, a4, a5, a6⟩ := h
  unfold EL
  rw [h2]
  exact ⟨a1, a2, a3, a4, fun r c hr hc => by rw [h1 r c hr hc]; exact a5 r c hr hc, a6⟩
/-- DIMENSIONS out of the class's row -/
def dmc (σ : Sg) (k u : Nat) : Int32 := pw (σ.1 2 k) u (σ.1 (3 + 1 + k) u)
def mC (σ : Sg) : Nat → Nat → Int64 := fun u c => (dmc σ c u).toInt64
theorem j_measC {q : Nat} {σ : Sg} (hq : q ≤ 8) (h0 : σ.1 1 0 = nI q) (hk : ∀ k, k < q → ∃ κ, κ < 6 ∧ σ.1 2 k = nI κ) (ht : ∀ k u, k < q → u < 5 → tv (σ.1 (3 + 1 + k) u)) : ∃ σ', j_measure_51_1 σ = some ((), σ') ∧ FR FRM σ σ' ∧ (σ'.1 51 0 = nI q ∧ (∀ k u, k < q → u < 5 → σ'.1 (52 + 1 + k) u = dmc σ k u) ∧ (∀ k, k < q → σ'.2 61 k = ky (dmc σ k)) ∧ EL 62 63 69 q (ets (mC σ) (2 ^ q - 1) q) σ') ∧ σ'.1 51 1 = σ.1 51 1 + 1 := by
  have hA : ∀ r c, r < 5 → c < q → (mC σ r c).toInt = (fun u c => (dmc σ c u).toInt) r c ∧ ((fun u c => (dmc σ c u).toInt) r c).natAbs ≤ 20 := by
    intro r c hr hc
    have := pw_rng (κ := σ.1 2 c) r (ht c r hc hr)
    refine ⟨Int32.toInt_toInt64 _, ?_⟩
    show (pw (σ.1 2 c) r (σ.1 (3 + 1 + c) r)).toInt.natAbs ≤ 20
    omega
  unfold j_measure_51_1
  generalize hτ0 : si (si σ 51 0 (σ.1 1 0)) 51 1 ((si σ 51 0 (σ.1 1 0)).1 51 1 + 1) = τ0
  have e0 : τ0.1 51 0 = nI q := by rw [← hτ0, si_j (by omega), si_e]; exact h0
  have e1 : τ0.1 51 1 = σ.1 51 1 + 1 := by rw [← hτ0, si_e, si_j (by omega)]
  have f0 : FR FRM σ τ0 := by rw [← hτ0]; exact FR_si (FR_si (FR_refl _ _) (by decide)) (by decide)
  refine loopE (L := fun n i s => j_measure_51_1_L20 n (nI i) s) (N := q) (P := fun i τ => FR FRM σ τ ∧ τ.1 51 = τ0.1 51 ∧ (∀ k u, k < i → u < 5 → τ.1 (52 + 1 + k) u = dmc σ k u) ∧ ∀ k, k < i → τ.2 61 k = ky (dmc σ k)) (Q := fun r => ∃ σ', r = some ((), σ') ∧ FR FRM σ σ' ∧ (σ'.1 51 0 = nI q ∧ (∀ k u, k < q → u < 5 → σ'.1 (52 + 1 + k) u = dmc σ k u) ∧ (∀ k, k < q → σ'.2 61 k = ky (dmc σ k)) ∧ EL 62 63 69 q (ets (mC σ) (2 ^ q - 1) q) σ') ∧ σ'.1 51 1 = σ.1 51 1 + 1) ?_ ?_ (fu_lt (by omega)) ⟨f0, rfl, fun _ _ h => (by omega), fun _ h => (by omega)⟩
  · rintro n i τ hi ⟨f, g1, g2, g3⟩
    obtain ⟨κ, hκ, hk1⟩ := hk i hi
    obtain ⟨τ1, w1, w2, w3⟩ := jsp hκ (show i < 8 by omega) τ
    have hkd : τ.1 2 i = nI κ := by rw [FR_i f (by decide)]; exact hk1
    have hd : ∀ u, u < 5 → τ1.1 (52 + 1 + i) u = dmc σ i u := by
      intro u hu
      rw [w3 u hu, FR_i f (by
        have : ∀ k, k < 8 → FRM.contains (3 + 1 + k) = false := by decide
        exact this i (by omega))]
      unfold dmc
      rw [hk1]
    refine ⟨sl τ1 61 i (ky (dmc σ i)), ?_, ?_, ?_, ?_, ?_⟩
    · show j_measure_51_1_H20 (j_measure_51_1_L20 n) (nI i) τ = _
      unfold j_measure_51_1_H20
      rw [g1, e0, if_neg (nI_ge hi (by omega)), inB_t (by omega) (by omega), gd_t, gd_t, gd_t, cl_n (by omega), hkd, w1, bd_s, gd_t, jky (by omega), bd_s, gd_t, nI_1]
      have : ky (τ1.1 (52 + 1 + i)) = ky (dmc σ i) := by
        unfold ky
        rw [hd 0 (by omega), hd 1 (by omega), hd 2 (by omega), hd 3 (by omega), hd 4 (by omega)]
      rw [this]
    · exact FR_sl (FR_trans f (FR_mono (FRM_p i (by omega)) w2)) (by decide)
    · rw [sl_i, FR_i w2 (FR_1 (by omega))]; exact g1
    · intro k u hk hu
      rw [sl_i]
      by_cases e : k = i
      · subst e; exact hd u hu
      · rw [FR_i w2 (FR_1 (by omega))]; exact g2 k u (by omega) hu
    · intro k hk
      by_cases e : k = i
      · subst e; rw [sl_e]
      · rw [sl_j e, FR_l w2 (FR_1 (by omega))]; exact g3 k (by omega)
  · rintro n τ ⟨f, g1, g2, g3⟩
    have hPW : PW q (mC σ) τ := by
      intro k u hk hu
      rw [g2 k u hk hu]; rfl
    obtain ⟨σ', w1, w2, w3⟩ := run_62 (A := mC σ) (set := 2 ^ q - 1) hq (by have := pw_256 hq; omega) (fun c hc => sc_nz hA hc) hPW
    refine ⟨σ', ?_, FR_trans f (FR_mono (by decide) w2), ⟨?_, ?_, ?_, w3⟩, ?_⟩
    · show j_measure_51_1_H20 (j_measure_51_1_L20 n) (nI q) τ = _
      unfold j_measure_51_1_H20
      rw [g1, e0, if_pos (nI_le (by omega) (by omega)), all_eq q (by omega), w1, bd_s]
    · rw [FR_i w2 (by decide), g1]; exact e0
    · intro k u hk hu
      rw [FR_i w2 (by
        have : ∀ k, k < 8 → FRE_62.contains (52 + 1 + k) = false := by decide
        exact this k (by omega)), g2 k u hk hu]
    · intro k hk
      rw [FR_l w2 (by decide), g3 k hk]
    · rw [FR_i w2 (by decide), g1, e1]
/-- what was measured, as the reference sees it in the end -/
theorem SP_end {q : Nat} {σ σ1 σ2 : Sg} (hq : q ≤ 8) (h : σ1.1 51 0 = nI q ∧ (∀ k u, k < q → u < 5 → σ1.1 (52 + 1 + k) u = dmc σ k u) ∧ (∀ k, k < q → σ1.2 61 k = ky (dmc σ k)) ∧ EL 62 63 69 q (ets (mC σ) (2 ^ q - 1) q) σ1) (hd : ∀ k u, k < q → u < 5 → dm σ2 k u = dmc σ k u) (hc : ∀ c, 51 ≤ c → c ≤ 69 → σ2.1 c = σ1.1 c ∧ σ2.2 c = σ1.2 c) : SP q σ2 := by
  obtain ⟨a1, a2, a3, a4⟩ := h
  have hA : ∀ r c, r < 5 → c < q → mA σ2 r c = mC σ r c := by
    intro r c hr hc'
    show (dm σ2 c r).toInt64 = (dmc σ c r).toInt64
    rw [hd c r hc' hr]
  obtain ⟨e1, e2⟩ := ets_cgA (S := 2 ^ q - 1) hA q (Nat.le_refl _)
  refine ⟨by rw [(hc 51 (by omega) (by omega)).1]; exact a1, ?_, ?_, ?_⟩
  · intro k u hk hu
    rw [(hc (52 + 1 + k) (by omega) (by omega)).1, hd k u hk hu]; exact a2 k u hk hu
  · intro k hk
    rw [(hc 61 (by omega) (by omega)).2, a3 k hk]
    unfold ky
    rw [hd k 0 hk (by omega), hd k 1 hk (by omega), hd k 2 hk (by omega), hd k 3 hk (by omega), hd k 4 hk (by omega)]
  · refine EL_cg (EL_fr a4 (hc _ (by omega) (by omega)).1 (hc _ (by omega) (by omega)).2 (fun r hr => (hc _ (by omega) (by omega)).2) (hc _ (by omega) (by omega)).1) e1 e2
/-- DIMENSIONS unchanged -/
theorem SP_cg {q : Nat} {σ σ2 : Sg} (hq : q ≤ 8) (h : SP q σ) (hd : ∀ k u, k < q → u < 5 → dm σ2 k u = dm σ k u) (hc : ∀ c, 51 ≤ c → c ≤ 69 → σ2.1 c = σ.1 c ∧ σ2.2 c = σ.2 c) : SP q σ2 := by
  obtain ⟨a1, a2, a3, a4⟩ := h
  have hA : ∀ r c, r < 5 → c < q → mA σ2 r c = mA σ r c := by
    intro r c hr hc'
    show (dm σ2 c r).toInt64 = (dm σ c r).toInt64
    rw [hd c r hc' hr]
  obtain ⟨e1, e2⟩ := ets_cgA (S := 2 ^ q - 1) hA q (Nat.le_refl _)
  refine ⟨by rw [(hc 51 (by omega) (by omega)).1]; exact a1, ?_, ?_, ?_⟩
  · intro k u hk hu
    rw [(hc (52 + 1 + k) (by omega) (by omega)).1, hd k u hk hu]; exact a2 k u hk hu
  · intro k hk
    rw [(hc 61 (by omega) (by omega)).2, a3 k hk]
    unfold ky
    rw [hd k 0 hk (by omega), hd k 1 hk (by omega), hd k 2 hk (by omega), hd k 3 hk (by omega), hd k 4 hk (by omega)]
  · refine EL_cg (EL_fr a4 (hc _ (by omega) (by omega)).1 (hc _ (by omega) (by omega)).2 (fun r hr => (hc _ (by omega) (by omega)).2) (hc _ (by omega) (by omega)).1) e1 e2
/-- the cells that a change of the model leaves alone -/
def kc (c : Nat) : Prop := (15 ≤ c ∧ c ≤ 28) ∨ c = 0 ∨ c = 70 ∨ c = 80 ∨ c = 81 ∨ c = 104 ∨ c = 107 ∨ (109 ≤ c ∧ c ≤ 112) ∨ c = 116 ∨ (119 ≤ c ∧ c ≤ 121) ∨ c = 126 ∨ c = 127
theorem VV_mk {n q q' ver : Nat} {σ σ' : Sg} (hn : n < 512) (h : VV n q ver σ) (hq' : q' ≤ 8) (hc : ∀ c, kc c → σ'.1 c = σ.1 c) (h2 : σ'.1 117 2 = σ.1 117 2) (h5 : σ'.1 117 5 = σ.1 117 5) (hM : MR 1 118 q' σ') (hH : HR q' σ') (hS : SP q' σ') (hv : σ'.1 51 1 = nI (ver + 1)) : VV (n + 1) q' (ver + 1) σ' := by
  obtain ⟨a1, a2, a3, a4, a5, a6, a7, a8, a9, a10, a11, a12, a13⟩ := h
  have e : ∀ c, kc c → σ'.1 c = σ.1 c := hc
  exact ⟨by omega, by omega, hq', hM, IM_fr a5 (by rw [e 0 (by unfold kc; omega)]) (fun c _ _ => e c (by unfold kc; omega)) (e 119 (by unfold kc; omega)) h2, LR_fr a6 (by rw [e 0 (by unfold kc; omega)]) (e 107 (by unfold kc; omega)) (e 121 (by unfold kc; omega)) h5, LI_fr a7 (fun c _ _ => e c (by unfold kc; omega)) (e 126 (by unfold kc; omega)) (e 127 (by unfold kc; omega)), RF_fr a8 (e 116 (by unfold kc; omega)) (e 120 (by unfold kc; omega)), hH, hS, hv, CCh_up a12 (e 70 (by unfold kc; omega)), CSe_up a13 (e 80 (by unfold kc; omega)) (e 81 (by unfold kc; omega)) (e 104 (by unfold kc; omega))⟩
/-- no DIMENSION has changed -/
theorem VV_mk0 {n q ver : Nat} {σ σ' : Sg} (hn : n < 512) (h : VV n q ver σ) (hc : ∀ c, kc c → σ'.1 c = σ.1 c) (h2 : σ'.1 117 2 = σ.1 117 2) (h5 : σ'.1 117 5 = σ.1 117 5) (hM : MR 1 118 q σ') (hH : HR q σ') (hd : ∀ k u, k < q → u < 5 → dm σ' k u = dm σ k u) (hs : ∀ c, 51 ≤ c → c ≤ 69 → σ'.1 c = σ.1 c ∧ σ'.2 c = σ.2 c) : VV (n + 1) q ver σ' := by
  obtain ⟨a1, a2, a3, a4, a5, a6, a7, a8, a9, a10, a11, a12, a13⟩ := h
  have e : ∀ c, kc c → σ'.1 c = σ.1 c := hc
  exact ⟨by omega, by omega, a3, hM, IM_fr a5 (by rw [e 0 (by unfold kc; omega)]) (fun c _ _ => e c (by unfold kc; omega)) (e 119 (by unfold kc; omega)) h2, LR_fr a6 (by rw [e 0 (by unfold kc; omega)]) (e 107 (by unfold kc; omega)) (e 121 (by unfold kc; omega)) h5, LI_fr a7 (fun c _ _ => e c (by unfold kc; omega)) (e 126 (by unfold kc; omega)) (e 127 (by unfold kc; omega)), RF_fr a8 (e 116 (by unfold kc; omega)) (e 120 (by unfold kc; omega)), hH, SP_cg a3 a10 hd hs, by rw [(hs 51 (by omega) (by omega)).1]; exact a11, CCh_cg a12 (e 70 (by unfold kc; omega)) hd, CSe_cg a13 (e 80 (by unfold kc; omega)) (e 81 (by unfold kc; omega)) (e 104 (by unfold kc; omega)) hd⟩
