/-! ===== PURE: DIMENSIONS' sizes; measure ===== -/
theorem pw_rng {κ v : Int32} (u : Nat) (h : tv v) : -20 ≤ (pw κ u v).toInt ∧ (pw κ u v).toInt ≤ 20 := by
  obtain ⟨h1, h2⟩ := h
  have s1 : (v - 1).toInt = v.toInt - 1 := by rw [Int32.toInt_sub, show (1 : Int32).toInt = 1 by decide]; exact bm32 (by omega) (by omega)
  have s2 : (v - 2).toInt = v.toInt - 2 := by rw [Int32.toInt_sub, show (2 : Int32).toInt = 2 by decide]; exact bm32 (by omega) (by omega)
  have m2 : (2 * v).toInt = 2 * v.toInt := by rw [Int32.toInt_mul, show (2 : Int32).toInt = 2 by decide]; exact bm32 (by omega) (by omega)
  have m3 : (2 * v - 2).toInt = 2 * v.toInt - 2 := by rw [Int32.toInt_sub, m2, show (2 : Int32).toInt = 2 by decide]; exact bm32 (by omega) (by omega)
  have z : (0 : Int32).toInt = 0 := by decide
  unfold pw
  repeat' split
  all_goals omega
theorem dm_rng {b q : Nat} {σ : Sg} (h : MR b 118 q σ) {k u : Nat} (hk : k < q) (hu : u < 5) : -20 ≤ (dm σ k u).toInt ∧ (dm σ k u).toInt ≤ 20 := pw_rng u (h.2.2.2.1 k u hk hu).2
/-- DIMENSIONS as integers -/
def mZ (σ : Sg) : Nat → Nat → Int := fun u c => (dm σ c u).toInt
theorem mA_Z {b q : Nat} {σ : Sg} (h : MR b 118 q σ) : ∀ r c, r < 5 → c < q → (mA σ r c).toInt = mZ σ r c ∧ (mZ σ r c).natAbs ≤ 20 := by
  intro r c hr hc
  have := dm_rng h hc hr
  refine ⟨Int32.toInt_toInt64 _, ?_⟩
  unfold mZ
  omega
theorem sc_nz {A : Nat → Nat → Int64} {Z : Nat → Nat → Int} {q set c : Nat} (hA : ∀ r c, r < 5 → c < q → (A r c).toInt = Z r c ∧ (Z r c).natAbs ≤ 20) (hc : c ≤ q) : (ets A set c).2.2.2.2 ≠ 0 := by
  intro e
  have h := (ets_zts set hA c hc).2.2.2.2
  obtain ⟨N, sg, hJ⟩ := (zts_J Z set c).2.2
  apply ZJ_sc hJ
  rw [← h, e]; rfl
def FRM : List Nat := [51, 53, 54, 55, 56, 57, 58, 59, 60, 61, 62, 64, 65, 66, 67, 68, 69]
theorem FRM_p : ∀ k, k < 8 → ([52 + 1 + k] : List Nat).all (fun x => FRM.contains x) = true := by decide
theorem j_meas {q : Nat} {σ : Sg} (hq : q ≤ 8) (h : MR 1 118 q σ) : ∃ σ', j_measure_51_1 σ = some ((), σ') ∧ FR FRM σ σ' ∧ SP q σ' ∧ σ'.1 51 1 = σ.1 51 1 + 1 := by
  unfold j_measure_51_1
  generalize hτ0 : si (si σ 51 0 (σ.1 1 0)) 51 1 ((si σ 51 0 (σ.1 1 0)).1 51 1 + 1) = τ0
  have e0 : τ0.1 51 0 = nI q := by rw [← hτ0, si_j (by omega), si_e]; exact h.1
  have e1 : τ0.1 51 1 = σ.1 51 1 + 1 := by rw [← hτ0, si_e, si_j (by omega)]
  have f0 : FR FRM σ τ0 := by rw [← hτ0]; exact FR_si (FR_si (FR_refl _ _) (by decide)) (by decide)
  refine loopE (L := fun n i s => j_measure_51_1_L20 n (nI i) s) (N := q) (P := fun i τ => FR FRM σ τ ∧ τ.1 51 = τ0.1 51 ∧ (∀ k u, k < i → u < 5 → τ.1 (52 + 1 + k) u = dm σ k u) ∧ ∀ k, k < i → τ.2 61 k = ky (dm σ k)) (Q := fun r => ∃ σ', r = some ((), σ') ∧ FR FRM σ σ' ∧ SP q σ' ∧ σ'.1 51 1 = σ.1 51 1 + 1) ?_ ?_ (fu_lt (by omega)) ⟨f0, rfl, fun _ _ h => (by omega), fun _ h => (by omega)⟩
  · rintro n i τ hi ⟨f, g1, g2, g3⟩
    obtain ⟨κ, hκ, hk1, hk2⟩ := h.2.2.1 i hi
    obtain ⟨τ1, w1, w2, w3⟩ := jsp hκ (show i < 8 by omega) τ
    have hkd : τ.1 2 i = nI κ := by rw [FR_i f (by decide)]; exact hk1
    have hd : ∀ u, u < 5 → τ1.1 (52 + 1 + i) u = dm σ i u := by
      intro u hu
      rw [w3 u hu, FR_i f (by
        have : ∀ k, k < 8 → FRM.contains (3 + 1 + k) = false := by decide
        exact this i (by omega))]
      unfold dm
      rw [hk2, ← (h.2.2.2.1 i u hi hu).1]
    refine ⟨sl τ1 61 i (ky (dm σ i)), ?_, ?_, ?_, ?_, ?_⟩
    · show j_measure_51_1_H20 (j_measure_51_1_L20 n) (nI i) τ = _
      unfold j_measure_51_1_H20
      rw [g1, e0, if_neg (nI_ge hi (by omega)), inB_t (by omega) (by omega), gd_t, gd_t, gd_t, cl_n (by omega), hkd, w1, bd_s, gd_t, jky (by omega), bd_s, gd_t, nI_1]
      have : ky (τ1.1 (52 + 1 + i)) = ky (dm σ i) := by
        unfold ky
        rw [hd 0 (by omega), hd 1 (by omega), hd 2 (by omega), hd 3 (by omega), hd 4 (by omega)]
      rw [this]
    · exact FR_sl (FR_trans f (FR_mono (FRM_p i (by omega)) w2)) (by decide)
    · rw [sl_i, FR_i w2 (FR_1 (by omega))]; exact g1
    · intro k u hk hu
      rw [sl_i]
      by_cases e : k = i
      · subst e; exact hd u hu
      · rw [FR_i w2 (FR_1 (by omega))]; exact g2 k u (by omega) hu
    · intro k hk
      by_cases e : k = i
      · subst e; rw [sl_e]
      · rw [sl_j e, FR_l w2 (FR_1 (by omega))]; exact g3 k (by omega)
  · rintro n τ ⟨f, g1, g2, g3⟩
    have h118 : τ.1 118 = σ.1 118 := FR_i f (by decide)
    have hPW : PW q (mA σ) τ := by
      intro k u hk hu
      rw [g2 k u hk hu]; rfl
    obtain ⟨σ', w1, w2, w3⟩ := run_62 (A := mA σ) (set := 2 ^ q - 1) hq (by have := pw_256 hq; omega) (fun c hc => sc_nz (mA_Z h) hc) hPW
    refine ⟨σ', ?_, FR_trans f (FR_mono (by decide) w2), ⟨?_, ?_, ?_, ?_⟩, ?_⟩
    · show j_measure_51_1_H20 (j_measure_51_1_L20 n) (nI q) τ = _
      unfold j_measure_51_1_H20
      rw [g1, e0, if_pos (nI_le (by omega) (by omega)), all_eq q (by omega), w1, bd_s]
    · rw [FR_i w2 (by decide), g1]; exact e0
    · intro k u hk hu
      have h8 : σ'.1 118 = σ.1 118 := (FR_i w2 (by decide)).trans h118
      rw [FR_i w2 (by
        have : ∀ k, k < 8 → FRE_62.contains (52 + 1 + k) = false := by decide
        exact this k (by omega)), g2 k u hk hu, dm_fr h8]
    · intro k hk
      have h8 : σ'.1 118 = σ.1 118 := (FR_i w2 (by decide)).trans h118
      rw [FR_l w2 (by decide), g3 k hk, dm_fr h8]
    · have h8 : σ'.1 118 = σ.1 118 := (FR_i w2 (by decide)).trans h118
      rw [mA_fr h8]; exact w3
    · rw [FR_i w2 (by decide), g1, e1]
