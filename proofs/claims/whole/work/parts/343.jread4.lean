/-! ===== PURE: the class reads letters, or the model's ===== -/
theorem jfill87 (σ : Sg) : ∃ σ', j_fillAII_87 0 σ = some ((), σ') ∧ FR [87] σ σ' ∧ ∀ p, p < 72 → σ'.1 87 p = 0 := by
  unfold j_fillAII_87
  refine loopE (L := fun k i s => j_fillAII_87_L5 k 0 (nI i) 72 s) (N := 72) (P := fun i τ => FR [87] σ τ ∧ ∀ p, p < i → τ.1 87 p = 0) (Q := fun r => ∃ σ', r = some ((), σ') ∧ FR [87] σ σ' ∧ ∀ p, p < 72 → σ'.1 87 p = 0) ?_ ?_ (by decide) ⟨FR_refl _ _, fun p h => absurd h (Nat.not_lt_zero _)⟩
  · rintro k i τ hi ⟨f, g⟩
    refine ⟨si τ 87 i 0, ?_, FR_si f (by decide), ?_⟩
    · show j_fillAII_87_H5 (j_fillAII_87_L5 k) 0 (nI i) 72 τ = _
      unfold j_fillAII_87_H5
      rw [if_neg (show ¬ (72 : Int32) ≤ nI i from nI_ge (b := 72) hi (by decide)), inB_t hi (by omega), gd_t, cl_n (by omega), nI_1]
    · intro p hp
      by_cases e : p = i
      · subst e; rw [si_e]
      · rw [si_j e]; exact g p (by omega)
  · rintro k τ ⟨f, g⟩
    refine ⟨τ, ?_, f, g⟩
    show j_fillAII_87_H5 (j_fillAII_87_L5 k) 0 (nI 72) 72 τ = _
    unfold j_fillAII_87_H5
    rw [if_pos (show (72 : Int32) ≤ nI 72 by decide)]
theorem cp_107 : ∀ k, k < 73 → cpB 107 86 0 0 (nI k) = true := by decide +kernel
theorem cp_14 : ∀ k, k < 73 → cpB 14 86 0 0 (nI k) = true := by decide +kernel
/-- from the copied text on -/
theorem jread_x {c0 len q : Nat} {f : Nat → Int32} {D : Nat → Vc} {σ : Sg} (hl : len ≤ 72) (hq : q ≤ 8) (hc : ∀ j, j < len → σ.1 c0 j = f j) (hc0 : c0 ≠ 85) (hf : ∀ j, j < len → ∃ x, x < 256 ∧ f j = nI x) (h51 : σ.1 51 0 = nI q) (hD : ∀ k u, k < q → u < 5 → σ.1 (52 + 1 + k) u = D k u) (h104 : ∀ u, u < 5 → σ.1 104 u = 0) : ∃ τ, (bd (j_fillAII_87 0 (si (si (si (si (scp (si σ 85 2 (nI len)) c0 86 0 0 len) 85 3 0) 85 4 (-9)) 85 5 0) 85 6 0)) fun _ σ2 => jtail σ2) = some ((), τ) ∧ FR FRR σ τ ∧ Rd len (pBoth (cA len f) q D) τ := by
  generalize hτ0 : si (si (si (si (scp (si σ 85 2 (nI len)) c0 86 0 0 len) 85 3 0) 85 4 (-9)) 85 5 0) 85 6 0 = τ0
  have f0 : FR FRR σ τ0 := by
    rw [← hτ0]
    exact FR_si (FR_si (FR_si (FR_si (FR_sc (FR_si (FR_refl _ _) (by decide)) (by decide)) (by decide)) (by decide)) (by decide)) (by decide)
  obtain ⟨τ1, x1, x2, x3⟩ := jfill87 τ0
  have f1 : FR FRR σ τ1 := FR_trans f0 (FR_mono (by decide) x2)
  have e85 : τ1.1 85 = τ0.1 85 := FR_i x2 (by decide)
  have h0 : Jst len (0, 0, (fun _ => false), 0) τ1 := by
    refine ⟨?_, by show 0 ≤ len; omega, ?_, ?_, ?_, ?_, ?_⟩
    · rw [e85, ← hτ0, si_j (by omega), si_j (by omega), si_j (by omega), si_j (by omega), sc_c (by omega), si_e]
    · rw [e85, ← hτ0, si_j (by omega), si_j (by omega), si_j (by omega), si_e]; rfl
    · rw [e85, ← hτ0, si_j (by omega), si_j (by omega), si_e]
    · rw [e85, ← hτ0, si_j (by omega), si_e]; rfl
    · rw [e85, ← hτ0, si_e]
    · intro j hj
      rw [x3 j hj]; rfl
  have hE : JE (cA len f) len q D τ1 := by
    refine ⟨hl, hq, ?_, ?_, ?_, ?_, ?_, ?_⟩
    · intro j hj
      rw [FR_i x2 (by decide), ← hτ0, si_c (by omega), si_c (by omega), si_c (by omega), si_c (by omega), sc_i (by omega) (by omega), Nat.zero_add, Nat.sub_zero, si_c hc0, hc j hj]
      unfold cA
      rw [if_pos hj]
    · intro j hj
      unfold cA
      rw [if_neg (by omega)]
    · intro j
      unfold cA
      by_cases g : j < len
      · rw [if_pos g]; exact Or.inr (hf j g)
      · rw [if_neg g]; exact Or.inl rfl
    · rw [FR_i f1 (by decide)]; exact h51
    · intro k u hk hu
      rw [FR_i f1 (by
        have : ∀ k, k < 8 → FRR.contains (52 + 1 + k) = false := by decide
        exact this k (by omega))]
      exact hD k u hk hu
    · intro u hu
      rw [FR_i f1 (by decide)]; exact h104 u hu
  obtain ⟨τ, y1, y2, y3⟩ := jtail_ok hE h0
  exact ⟨τ, by rw [x1, bd_s, y1], FR_trans f1 y2, y3⟩
theorem v104 {n q ver : Nat} {σ : Sg} (h : VV n q ver σ) : ∀ u, u < 5 → σ.1 104 u = 0 := h.2.2.2.2.2.2.2.2.2.2.2.2.1
theorem jread_107 {n q ver len : Nat} {σ : Sg} (h : VV n q ver σ) (hl : len ≤ 72) (hf : ∀ j, j < len → ∃ x, x < 256 ∧ σ.1 107 j = nI x) : ∃ τ, j_read_85_107 (nI len) σ = some ((), τ) ∧ FR FRR σ τ ∧ Rd len (pBoth (cA len (σ.1 107)) q (dm σ)) τ := by
  obtain ⟨τ, x1, x2, x3⟩ := jread_x (c0 := 107) (f := σ.1 107) (D := dm σ) hl (vq h) (fun _ _ => rfl) (by omega) hf (vSP h).1 (vSP h).2.1 (v104 h)
  refine ⟨τ, ?_, x2, x3⟩
  rw [← x1]
  unfold j_read_85_107
  rw [imin72 len (by omega), si_e, cl_n (by omega), cp_107 len (by omega), gd_t]
  rfl
theorem jread_14 {n q ver len : Nat} {f : Nat → Int32} {σ : Sg} (h : VV n q ver σ) (hl : len ≤ 72) (hc : ∀ j, j < len → σ.1 14 j = f j) (hf : ∀ j, j < len → ∃ x, x < 256 ∧ f j = nI x) : ∃ τ, j_read_85_14 (nI len) σ = some ((), τ) ∧ FR FRR σ τ ∧ Rd len (pBoth (cA len f) q (dm σ)) τ := by
  obtain ⟨τ, x1, x2, x3⟩ := jread_x (c0 := 14) (f := f) (D := dm σ) hl (vq h) hc (by omega) hf (vSP h).1 (vSP h).2.1 (v104 h)
  refine ⟨τ, ?_, x2, x3⟩
  rw [← x1]
  unfold j_read_85_14
  rw [imin72 len (by omega), si_e, cl_n (by omega), cp_14 len (by omega), gd_t]
  rfl
