/-! ===== PURE: the beginning ===== -/
theorem v_init : VI 0 sgI := by
  have b0 : ∀ (P : Nat → Prop) (k : Nat), k < 0 → P k := fun P k h => absurd h (Nat.not_lt_zero _)
  have hFM : FM 1 118 0 sgI := ⟨0, Nat.zero_le _, by decide +kernel, Or.inl ⟨by decide +kernel, by decide +kernel⟩⟩
  have hMR : MR 1 118 0 sgI := ⟨by decide +kernel, by decide +kernel, fun k h => absurd h (Nat.not_lt_zero _), fun k u h => absurd h (Nat.not_lt_zero _), fun k h => absurd h (Nat.not_lt_zero _), hFM⟩
  have hIM : IM sgI := Or.inl ⟨by decide +kernel, by decide +kernel⟩
  have hLR : LR sgI := ⟨0, Nat.zero_le _, by decide +kernel, by decide +kernel, fun j h => absurd h (Nat.not_lt_zero _)⟩
  have l1 : ∀ l, l < 3 → sgI.1 112 l = -11 ∧ sgI.1 126 l = -1 := by decide +kernel
  have l2 : ∀ l, l < 3 → ∀ i, i < 40 → sgI.1 (108 + 1 + l) i = sgI.1 127 (40 * l + i) := by decide +kernel
  have hLI : LI sgI := fun l hl => ⟨Or.inl (l1 l hl), l2 l hl⟩
  have r1 : ∀ k, k < 7 → sgI.1 116 k = sgI.1 120 k := by decide +kernel
  have hRF : RF sgI := fun k _ h => r1 k (by omega)
  have hHR : HR 0 sgI := ⟨0, 0, Nat.zero_le _, by decide, by decide +kernel, by decide +kernel, by decide +kernel, fun j h => absurd h (Nat.not_lt_zero _)⟩
  have hSP : SP 0 sgI := by
    refine ⟨by decide +kernel, fun k u h => absurd h (Nat.not_lt_zero _), fun k h => absurd h (Nat.not_lt_zero _), ?_⟩
    have e : ets (mA sgI) (2 ^ 0 - 1) 0 = (mA sgI, 0, 0, fun _ => 0, 1) := rfl
    rw [e]
    exact ⟨by decide +kernel, by decide +kernel, by decide +kernel, by decide +kernel, fun r c _ h => absurd h (Nat.not_lt_zero _), fun c h => absurd h (Nat.not_lt_zero _)⟩
  have c1 : ∀ u, u < 5 → sgI.1 104 u = 0 := by decide +kernel
  exact ⟨0, 0, by omega, Nat.le_refl _, by omega, hMR, hIM, hLR, hLI, hRF, hHR, hSP, by decide +kernel, Or.inl (by decide +kernel), c1, Or.inl (by decide +kernel)⟩
