/-! ===== PURE: all sets looked at ===== -/
theorem lkf_fr {σ σ' : Sg} (h8 : σ'.1 118 = σ.1 118) (q : Nat) : ∀ k, lkf σ' q k = lkf σ q k
  | 0 => rfl
  | S + 1 => by
    unfold lkf
    rw [lkf_fr h8 q S, chB_fr h8, szt_fr h8, show RK σ' q = RK σ q by unfold RK; rw [(same118 h8).1]]
theorem lkf_le (σ : Sg) (q : Nat) : ∀ k, (lkf σ q k).1 ≤ (lkf σ q k).2.1 ∧ (lkf σ q k).2.1 ≤ k
  | 0 => ⟨Nat.le_refl _, Nat.le_refl _⟩
  | S + 1 => by
    have ih := lkf_le σ q S
    show (lkf σ q S).1 + (if chB σ q S = true then 1 else 0) ≤ (lkf σ q S).2.1 + (if cntS S q = RK σ q then 1 else 0) ∧ (lkf σ q S).2.1 + (if cntS S q = RK σ q then 1 else 0) ≤ S + 1
    by_cases g : chB σ q S = true
    · rw [if_pos g, if_pos (chB_iff.mp g).1]; omega
    · rw [if_neg g]; split <;> omega
theorem lkf_first (σ : Sg) (q : Nat) : ∀ k, ((lkf σ q k).1 = 0 ∧ ∀ S, S < k → chB σ q S = false) ∨ (0 < (lkf σ q k).1 ∧ (lkf σ q k).2.2.1 < k ∧ chB σ q (lkf σ q k).2.2.1 = true ∧ ∀ S, S < (lkf σ q k).2.2.1 → chB σ q S = false)
  | 0 => Or.inl ⟨rfl, fun S h => absurd h (Nat.not_lt_zero _)⟩
  | S + 1 => by
    have e1 : (lkf σ q (S + 1)).1 = (lkf σ q S).1 + (if chB σ q S = true then 1 else 0) := rfl
    have e3 : (lkf σ q (S + 1)).2.2.1 = if chB σ q S = true ∧ (lkf σ q S).1 = 0 then S else (lkf σ q S).2.2.1 := rfl
    rw [e1, e3]
    rcases lkf_first σ q S with ⟨h1, h2⟩ | ⟨h1, h2, h3, h4⟩
    · by_cases g : chB σ q S = true
      · rw [if_pos g, if_pos ⟨g, h1⟩]
        exact Or.inr ⟨by omega, by omega, g, h2⟩
      · rw [if_neg g, if_neg (fun w => g w.1)]
        refine Or.inl ⟨by omega, fun S' hS' => ?_⟩
        rcases Nat.lt_or_eq_of_le (Nat.le_of_lt_succ hS') with w | w
        · exact h2 S' w
        · rw [w]; simpa using g
    · rw [if_neg (c := chB σ q S = true ∧ (lkf σ q S).1 = 0) (fun w => by omega)]
      exact Or.inr ⟨by omega, by omega, h3, h4⟩
theorem pv_ch (σ : Sg) (q : Nat) : chB σ q (PV σ q) = true := by
  have hP := ets_PP (A := mA σ) (S := 2 ^ q - 1) (p := q) (q := q) (Nat.le_refl _)
  refine chB_iff.mpr ⟨(RK_eq σ q).symm, ?_⟩
  show (ets (mA σ) (ets (mA σ) (2 ^ q - 1) q).2.2.1 q).2.2.1 = _
  rw [hP]; rfl
theorem lkf_pos (σ : Sg) (q : Nat) : 0 < (lkf σ q (2 ^ q)).1 := by
  rcases lkf_first σ q (2 ^ q) with ⟨h1, h2⟩ | ⟨h1, _⟩
  · have := h2 (PV σ q) (PV_lt σ q)
    rw [pv_ch] at this; cases this
  · exact h1
def LKS : List Nat := [70, 71, 73, 74, 75, 76, 77, 78, 79]
/-- what the class has noted so far -/
def LKP (σ : Sg) (q k : Nat) (τ : Sg) : Prop := τ.1 70 4 = nI (lkf σ q k).1 ∧ τ.1 70 5 = nI (lkf σ q k).2.1 ∧ ((lkf σ q k).1 ≠ 0 → τ.1 70 6 = nI (lkf σ q k).2.2.1 ∧ τ.1 70 7 = nI (lkf σ q k).2.2.2.1 ∧ (τ.2 70 8).toInt = (lkf σ q k).2.2.2.2)
theorem Kp70 {σ τ : Sg} (h : FR LKS σ τ) {c : Nat} (hc : kp c) (h7 : c ≠ 70) : τ.1 c = σ.1 c ∧ τ.2 c = σ.2 c := by
  refine h c ?_
  cases hq : LKS.contains c
  · rfl
  · have h1 : c ∈ LKS := by simpa using hq
    unfold LKS at h1
    simp only [List.mem_cons, List.not_mem_nil, or_false] at h1
    unfold kp at hc
    omega
