/-! ===== PURE: the class's search for the least ===== -/
theorem jls {q : Nat} {σ : Sg} (hv : V70 q σ) : ∀ d m left (x : Int64) (v : Nat → Int) (τ : Sg), d ≤ q → d < m → left ≤ 6 → τ.2 61 = σ.2 61 → x.toInt = Kz v → (∀ u, u < 5 → (v u).natAbs ≤ 120 - 20 * left) → (∀ l, lsr σ q d left v = some l → ∃ τ', j_hasPure_61_81 m (nI q) (nI (q - d)) (nI left) x τ = some (1, τ') ∧ FR [81] τ τ' ∧ (∀ j, j < q - d → τ'.1 81 j = τ.1 81 j) ∧ ∀ i, i < d → (τ'.1 81 (q - d + i)).toInt = l.getD i 0) ∧ (lsr σ q d left v = none → ∃ τ', j_hasPure_61_81 m (nI q) (nI (q - d)) (nI left) x τ = some (0, τ') ∧ FR [81] τ τ' ∧ (∀ j, j < q - d → τ'.1 81 j = τ.1 81 j) ∧ ∀ j, q - d ≤ j → j < q → τ'.1 81 j = 0)
  | 0, m, left, x, v, τ, hd, hm, hl, h61, hx, hvb => by
    have hq := hv.1
    obtain ⟨m, rfl⟩ : ∃ j, m = j + 1 := ⟨m - 1, by omega⟩
    have hz := Kz_0 (v := v) (fun u hu => by have := hvb u hu; omega)
    have st : j_hasPure_61_81 (m + 1) (nI q) (nI (q - 0)) (nI left) x τ = some (if left = 0 ∧ zr5 v = true then 1 else 0, τ) := by
      show j_hasPure_61_81_H (j_hasPure_61_81 m) (nI q) (nI (q - 0)) (nI left) x τ = _
      unfold j_hasPure_61_81_H j_hasPure_61_81_b21 j_hasPure_61_81_b22
      rw [if_neg (nI_nlt (by omega) (by omega))]
      by_cases g : left = 0
      · rw [if_pos (show nI left = 0 by rw [g]; rfl)]
        by_cases g2 : zr5 v = true
        · rw [if_pos (cmp_eq.mpr (L_eq (by rw [hx, hz.mpr (zr5_iff.mp g2)]; rfl))), if_pos ⟨g, g2⟩]; rfl
        · rw [if_neg (fun w => g2 (zr5_iff.mpr (hz.mp (by rw [← hx, cmp_eq.mp w]; rfl)))), if_neg (fun w => g2 w.2)]; rfl
      · rw [if_neg (show ¬ nI left = 0 from fun w => g ((nI_eq (b := 0) (by omega) (by omega)).mp w)), if_neg (fun w => g w.1)]; rfl
    rw [st]
    unfold lsr
    constructor
    · intro l hll
      by_cases g : left = 0 ∧ zr5 v = true
      · rw [if_pos g]; exact ⟨τ, rfl, FR_refl _ _, fun _ _ => rfl, fun i hi => absurd hi (Nat.not_lt_zero _)⟩
      · rw [if_neg g] at hll; cases hll
    · intro hll
      by_cases g : left = 0 ∧ zr5 v = true
      · rw [if_pos g] at hll; cases hll
      · rw [if_neg g]; exact ⟨τ, rfl, FR_refl _ _, fun _ _ => rfl, fun j h1 h2 => by omega⟩
  | d + 1, m, left, x, v, τ, hd, hm, hl, h61, hx, hvb => by
    have hq := hv.1
    have hM := hv.2.1
    obtain ⟨m, rfl⟩ : ∃ j, m = j + 1 := ⟨m - 1, by omega⟩
    have hk : q - (d + 1) < q := by omega
    have hkd : q - (d + 1) + 1 = q - d := by omega
    have hky : (σ.2 61 (q - (d + 1))).toInt = Kz (dZ σ (q - (d + 1))) := by rw [hv.2.2.2.2.1 _ hk]; exact kyd hM hk
    have hDl : ∀ u, u < 5 → (dZ σ (q - (d + 1)) u).natAbs ≤ 20 := fun u hu => dZ_le hM hk hu
    have ld := Kz_le (v := dZ σ (q - (d + 1))) (fun u hu => by have := hDl u hu; omega)
    have lx := Kz_le (v := v) (fun u hu => by have := hvb u hu; omega)
    generalize hG : (fun y : Int => lsr σ q d (left - y.natAbs) (fun u => v u + y * dZ σ (q - (d + 1)) u)) = G
    have hGe : ∀ y, G y = lsr σ q d (left - y.natAbs) (fun u => v u + y * dZ σ (q - (d + 1)) u) := fun y => by rw [← hG]
    have hls : lsr σ q (d + 1) left v = lsl G (2 * left + 1) (-(left : Int)) := by rw [← hG]; rfl
    -- one try
    have try1 : ∀ (y : Int) (stp : Int32) (mm : Nat) (ρ : Sg), y.natAbs ≤ left → FR [81] τ ρ → (∀ j, j < q - (d + 1) → ρ.1 81 j = τ.1 81 j) → (G y = none → ∃ ρ', j_hasPure_61_81_L50 (j_hasPure_61_81 m) (mm + 1) (nI q) (nI (q - (d + 1))) (nI left) x stp (xI y) ρ = j_hasPure_61_81_L50 (j_hasPure_61_81 m) mm (nI q) (nI (q - (d + 1))) (nI left) x stp (xI y + stp) ρ' ∧ FR [81] τ ρ' ∧ (∀ j, j < q - (d + 1) → ρ'.1 81 j = τ.1 81 j) ∧ ∀ j, q - d ≤ j → j < q → ρ'.1 81 j = 0) ∧ (∀ l', G y = some l' → ∃ ρ', j_hasPure_61_81_L50 (j_hasPure_61_81 m) (mm + 1) (nI q) (nI (q - (d + 1))) (nI left) x stp (xI y) ρ = some (1, ρ') ∧ FR [81] τ ρ' ∧ (∀ j, j < q - (d + 1) → ρ'.1 81 j = τ.1 81 j) ∧ ∀ i, i < d + 1 → (ρ'.1 81 (q - (d + 1) + i)).toInt = (y :: l').getD i 0) := by
      intro y stp mm ρ hy fr pr
      have hyt : (xI y).toInt = y := xI_t (by omega)
      have h61r : (si ρ 81 (q - (d + 1)) (xI y)).2 61 = σ.2 61 := by rw [si_l, FR_l fr (by decide)]; exact h61
      have hyD : (y * Kz (dZ σ (q - (d + 1)))).natAbs ≤ 3600000000000000000 := by
        rw [Int.natAbs_mul]
        have := Nat.mul_le_mul (show y.natAbs ≤ 6 by omega) ld
        omega
      have e1 : ((xI y).toInt64 * σ.2 61 (q - (d + 1))).toInt = y * Kz (dZ σ (q - (d + 1))) := L_mul (by rw [Int32.toInt_toInt64, hyt]) hky (by omega) (by omega)
      have e2 : (x + (xI y).toInt64 * σ.2 61 (q - (d + 1))).toInt = Kz (fun u => v u + y * dZ σ (q - (d + 1)) u) := by
        rw [Kz_add v (fun u => y * dZ σ (q - (d + 1)) u), Kz_mul]
        exact L_add hx e1 (by omega) (by omega)
      have hrec := jls hv d m (left - y.natAbs) (x + (xI y).toInt64 * σ.2 61 (q - (d + 1))) (fun u => v u + y * dZ σ (q - (d + 1)) u) (si ρ 81 (q - (d + 1)) (xI y)) (by omega) (by omega) (by omega) h61r e2 (fun u hu => by
        have w1 := hvb u hu
        have w2 := hDl u hu
        have w3 : (y * dZ σ (q - (d + 1)) u).natAbs ≤ y.natAbs * 20 := by
          rw [Int.natAbs_mul]; exact Nat.mul_le_mul_left _ w2
        omega)
      have hsub : nI left - iabs (xI y) = nI (left - y.natAbs) := by
        apply Int32.toInt_inj.mp
        rw [Int32.toInt_sub, iabs_int (by omega), hyt, nI_toInt (by omega), nI_toInt (by omega), bm32 (by omega) (by omega)]; omega
      have st2 : j_hasPure_61_81_L50 (j_hasPure_61_81 m) (mm + 1) (nI q) (nI (q - (d + 1))) (nI left) x stp (xI y) ρ = bd (j_hasPure_61_81 m (nI q) (nI (q - d)) (nI (left - y.natAbs)) (x + (xI y).toInt64 * σ.2 61 (q - (d + 1))) (si ρ 81 (q - (d + 1)) (xI y))) fun r4 σ4 => if r4 = 0 then j_hasPure_61_81_L50 (j_hasPure_61_81 m) mm (nI q) (nI (q - (d + 1))) (nI left) x stp (xI y + stp) σ4 else some (1, σ4) := by
        show j_hasPure_61_81_H50 (j_hasPure_61_81 m) (j_hasPure_61_81_L50 (j_hasPure_61_81 m) mm) _ _ _ x stp (xI y) ρ = _
        unfold j_hasPure_61_81_H50
        rw [if_neg (fun w => by have := (gt_l (by omega)).mp w; rw [hyt] at this; omega), inB_t (by omega) (by omega), gd_t, gd_t, cl_n (by omega), nI_1, hkd, h61r, hsub]
      rw [st2]
      constructor
      · intro hg
        obtain ⟨ρ', w1, w2, w3, w4⟩ := hrec.2 (by rw [← hGe]; exact hg)
        refine ⟨ρ', by rw [w1, bd_s, if_pos rfl], FR_trans (FR_si fr (by decide)) w2, fun j hj => by rw [w3 j (by omega), si_j (by omega)]; exact pr j hj, w4⟩
      · intro l' hg
        obtain ⟨ρ', w1, w2, w3, w4⟩ := hrec.1 l' (by rw [← hGe]; exact hg)
        refine ⟨ρ', by rw [w1, bd_s, if_neg (by decide)], FR_trans (FR_si fr (by decide)) w2, fun j hj => by rw [w3 j (by omega), si_j (by omega)]; exact pr j hj, ?_⟩
        intro i hi
        cases i with
        | zero => rw [Nat.add_zero, w3 _ (by omega), si_e, hyt]; rfl
        | succ i => rw [show q - (d + 1) + (i + 1) = q - d + i by omega, w4 i (by omega)]; rfl
    have fin : ∀ (z : Int32) (stp : Int32) (mm : Nat) (ρ : Sg), (left : Int) < z.toInt → FR [81] τ ρ → (∀ j, j < q - (d + 1) → ρ.1 81 j = τ.1 81 j) → (∀ j, q - d ≤ j → j < q → ρ.1 81 j = 0) → ∃ τ', j_hasPure_61_81_L50 (j_hasPure_61_81 m) (mm + 1) (nI q) (nI (q - (d + 1))) (nI left) x stp z ρ = some (0, τ') ∧ FR [81] τ τ' ∧ (∀ j, j < q - (d + 1) → τ'.1 81 j = τ.1 81 j) ∧ ∀ j, q - (d + 1) ≤ j → j < q → τ'.1 81 j = 0 := by
      intro z stp mm ρ hz fr pr pz
      refine ⟨si ρ 81 (q - (d + 1)) 0, ?_, FR_si fr (by decide), fun j hj => by rw [si_j (by omega)]; exact pr j hj, fun j h1 h2 => ?_⟩
      · show j_hasPure_61_81_H50 (j_hasPure_61_81 m) (j_hasPure_61_81_L50 (j_hasPure_61_81 m) mm) _ _ _ x stp z ρ = _
        unfold j_hasPure_61_81_H50
        rw [if_pos ((gt_l (by omega)).mpr hz), inB_t (by omega) (by omega), gd_t, cl_n (by omega)]
      · by_cases e : j = q - (d + 1)
        · rw [e, si_e]
        · rw [si_j e]; exact pz j (by omega) h2
    rw [hls]
    by_cases hlast : d = 0 ∧ 0 < left
    · -- the last one takes all that is left
      obtain ⟨hd0, hl0⟩ := hlast
      subst hd0
      have st : j_hasPure_61_81 (m + 1) (nI q) (nI (q - 1)) (nI left) x τ = j_hasPure_61_81_L50 (j_hasPure_61_81 m) fu (nI q) (nI (q - (0 + 1))) (nI left) x (nI (2 * left)) (xI (-(left : Int))) τ := by
        show j_hasPure_61_81_H (j_hasPure_61_81 m) (nI q) (nI (q - 1)) (nI left) x τ = _
        unfold j_hasPure_61_81_H j_hasPure_61_81_b43
        rw [if_pos (nI_lt (by omega) (by omega)), if_pos (pred_eq (by omega)).symm, if_neg (show ¬ nI left ≤ 0 from nI_ge (b := left) (a := 0) (by omega) (by omega)), i2t, neg_n (by omega)]
      have hmid : ∀ y : Int, y.natAbs < left → G y = none := by
        intro y hy
        rw [hGe]
        unfold lsr
        rw [if_neg (fun w => by omega)]
      have hstep : xI (-(left : Int)) + nI (2 * left) = xI (left : Int) := by
        apply Int32.toInt_inj.mp
        rw [Int32.toInt_add, xI_t (by omega), nI_toInt (by omega), xI_t (by omega), bm32 (by omega) (by omega)]; omega
      have hend : (xI (left : Int) + nI (2 * left)).toInt = 3 * (left : Int) := by
        rw [Int32.toInt_add, xI_t (by omega), nI_toInt (by omega), bm32 (by omega) (by omega)]; omega
      show (∀ l, lsl G (2 * left + 1) (-(left : Int)) = some l → ∃ τ', j_hasPure_61_81 (m + 1) (nI q) (nI (q - 1)) (nI left) x τ = some (1, τ') ∧ _) ∧ (lsl G (2 * left + 1) (-(left : Int)) = none → ∃ τ', j_hasPure_61_81 (m + 1) (nI q) (nI (q - 1)) (nI left) x τ = some (0, τ') ∧ _)
      rw [st]
      have T1 := try1 (-(left : Int)) (nI (2 * left)) 19999 τ (by omega) (FR_refl _ _) (fun _ _ => rfl)
      cases hg : G (-(left : Int)) with
      | some l' =>
        obtain ⟨ρ', w1, w2, w3, w4⟩ := T1.2 l' hg
        rw [lsl_t hg]
        refine ⟨fun l hl => ?_, fun hl => (by cases hl)⟩
        obtain rfl : -(left : Int) :: l' = l := by simpa using hl
        exact ⟨ρ', w1, w2, w3, w4⟩
      | none =>
        obtain ⟨ρ1, w1, w2, w3, w4⟩ := T1.1 hg
        have hw1 : j_hasPure_61_81_L50 (j_hasPure_61_81 m) fu (nI q) (nI (q - (0 + 1))) (nI left) x (nI (2 * left)) (xI (-(left : Int))) τ = j_hasPure_61_81_L50 (j_hasPure_61_81 m) (19998 + 1) (nI q) (nI (q - (0 + 1))) (nI left) x (nI (2 * left)) (xI (left : Int)) ρ1 := by rw [← hstep]; exact w1
        rw [hw1]
        have hsk : lsl G (2 * left + 1) (-(left : Int)) = lsl G 1 (left : Int) := by
          have := lsl_skip (g := G) (2 * left) 1 (-(left : Int)) (fun y h1 h2 => by
            by_cases e : y = -(left : Int)
            · rw [e]; exact hg
            · exact hmid y (by omega))
          rw [this]; congr 1; omega
        rw [hsk]
        have T2 := try1 (left : Int) (nI (2 * left)) 19998 ρ1 (by omega) w2 w3
        cases hg2 : G (left : Int) with
        | some l' =>
          obtain ⟨ρ', y1, y2, y3, y4⟩ := T2.2 l' hg2
          rw [lsl_t hg2]
          refine ⟨fun l hl => ?_, fun hl => (by cases hl)⟩
          obtain rfl : (left : Int) :: l' = l := by simpa using hl
          exact ⟨ρ', y1, y2, y3, y4⟩
        | none =>
          obtain ⟨ρ2, y1, y2, y3, y4⟩ := T2.1 hg2
          rw [lsl_f hg2, y1]
          refine ⟨fun l hl => (by cases hl), fun _ => ?_⟩
          exact fin _ (nI (2 * left)) 19997 ρ2 (by rw [hend]; omega) y2 y3 y4
    · have st : j_hasPure_61_81 (m + 1) (nI q) (nI (q - (d + 1))) (nI left) x τ = j_hasPure_61_81_L50 (j_hasPure_61_81 m) fu (nI q) (nI (q - (d + 1))) (nI left) x 1 (xI (-(left : Int))) τ := by
        show j_hasPure_61_81_H (j_hasPure_61_81 m) (nI q) (nI (q - (d + 1))) (nI left) x τ = _
        unfold j_hasPure_61_81_H j_hasPure_61_81_b42 j_hasPure_61_81_b43
        rw [if_pos (nI_lt hk (by omega)), neg_n (by omega)]
        by_cases g : d = 0
        · have hl0 : left = 0 := by omega
          rw [if_pos (show nI (q - (d + 1)) = nI q - 1 by rw [g, pred_eq (by omega)]), if_pos (show nI left ≤ 0 by rw [hl0]; decide)]
        · rw [if_neg (show ¬ nI (q - (d + 1)) = nI q - 1 from fun w => by
            rw [pred_eq (by omega)] at w
            have := (nI_eq (by omega) (by omega)).mp w; omega)]
      rw [st]
      have key : ∀ (e mm : Nat) (y : Int) (ρ : Sg), y + (e : Int) = (left : Int) + 1 → -(left : Int) ≤ y → e < mm → FR [81] τ ρ → (∀ j, j < q - (d + 1) → ρ.1 81 j = τ.1 81 j) → (e = 2 * left + 1 ∨ ∀ j, q - d ≤ j → j < q → ρ.1 81 j = 0) → (∀ l, lsl G e y = some l → ∃ τ', j_hasPure_61_81_L50 (j_hasPure_61_81 m) mm (nI q) (nI (q - (d + 1))) (nI left) x 1 (xI y) ρ = some (1, τ') ∧ FR [81] τ τ' ∧ (∀ j, j < q - (d + 1) → τ'.1 81 j = τ.1 81 j) ∧ ∀ i, i < d + 1 → (τ'.1 81 (q - (d + 1) + i)).toInt = l.getD i 0) ∧ (lsl G e y = none → ∃ τ', j_hasPure_61_81_L50 (j_hasPure_61_81 m) mm (nI q) (nI (q - (d + 1))) (nI left) x 1 (xI y) ρ = some (0, τ') ∧ FR [81] τ τ' ∧ (∀ j, j < q - (d + 1) → τ'.1 81 j = τ.1 81 j) ∧ ∀ j, q - (d + 1) ≤ j → j < q → τ'.1 81 j = 0) := by
        intro e
        induction e with
        | zero =>
          intro mm y ρ hy hy2 hmm fr pr pz
          obtain ⟨mm, rfl⟩ : ∃ j, mm = j + 1 := ⟨mm - 1, by omega⟩
          refine ⟨fun l hl => (by cases hl), fun _ => fin _ 1 mm ρ (by rw [xI_t (by omega)]; omega) fr pr ?_⟩
          rcases pz with w | w
          · omega
          · exact w
        | succ e ih =>
          intro mm y ρ hy hy2 hmm fr pr pz
          obtain ⟨mm, rfl⟩ : ∃ j, mm = j + 1 := ⟨mm - 1, by omega⟩
          have T := try1 y 1 mm ρ (by omega) fr pr
          cases hg : G y with
          | some l' =>
            obtain ⟨ρ', w1, w2, w3, w4⟩ := T.2 l' hg
            rw [lsl_t hg]
            refine ⟨fun l hl => ?_, fun hl => (by cases hl)⟩
            obtain rfl : y :: l' = l := by simpa using hl
            exact ⟨ρ', w1, w2, w3, w4⟩
          | none =>
            obtain ⟨ρ', w1, w2, w3, w4⟩ := T.1 hg
            rw [lsl_f hg, w1, xI_1 (by omega)]
            exact ih mm (y + 1) ρ' (by omega) (by omega) (by omega) w2 w3 (Or.inr w4)
      exact key (2 * left + 1) fu (-(left : Int)) τ (by omega) (by omega) (fu_lt (by omega)) (FR_refl _ _) (fun _ _ => rfl) (Or.inl rfl)
