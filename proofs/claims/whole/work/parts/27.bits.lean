/-! ===== PURE: sets as ints ===== -/
theorem bit_eq : ∀ s, s < 256 → ∀ c, c < 8 → ((nI s) >>> ((nI c) &&& 31)) &&& 1 = if s.testBit c then 1 else 0 := by decide +kernel
theorem or_eq : ∀ c, c < 8 → ∀ P, P < 128 → P < 2 ^ c → (nI P) ||| ((1 : Int32) <<< ((nI c) &&& 31)) = nI (P + 2 ^ c) := by decide +kernel
theorem sh_eq : ∀ q, q < 9 → (1 : Int32) <<< ((nI q) &&& 31) = nI (2 ^ q) := by decide +kernel
theorem all_eq : ∀ q, q < 9 → ((1 : Int32) <<< ((nI q) &&& 31)) - 1 = nI (2 ^ q - 1) := by decide +kernel
theorem j_bit_eq {s c : Nat} (hs : s < 256) (hc : c < 8) (σ : Sg) : j_bit_s (nI s) (nI c) σ = some (if s.testBit c then 1 else 0, σ) := by
  unfold j_bit_s; rw [bit_eq s hs c hc]
theorem m_has_eq {s c : Nat} (hs : s < 256) (hc : c < 8) (σ : Sg) : m_has_s (nI s) (nI c) σ = some (if s.testBit c then 1 else 0, σ) := by
  unfold m_has_s m_has_s_b14
  rw [bit_eq s hs c hc]
  cases s.testBit c <;> rfl
theorem pw_le {a b : Nat} (h : a ≤ b) : 2 ^ a ≤ 2 ^ b := Nat.pow_le_pow_right (by omega) h
theorem pw_256 {q : Nat} (h : q ≤ 8) : 2 ^ q ≤ 256 := by have := pw_le h; omega
theorem efr_some {T : Nat → Nat → Int64} {c : Nat} : ∀ {n r x : Nat}, efr T c n r = some x → r ≤ x ∧ x < r + n ∧ T x c ≠ 0
  | 0, r, x, h => by cases h
  | n + 1, r, x, h => by
    unfold efr at h
    by_cases g : T r c = 0
    · rw [if_pos g] at h
      have := efr_some h
      exact ⟨by omega, by omega, this.2.2⟩
    · rw [if_neg g] at h
      obtain rfl : r = x := by simpa using h
      exact ⟨by omega, by omega, g⟩
theorem efr_none {T : Nat → Nat → Int64} {c : Nat} : ∀ {n r : Nat}, efr T c n r = none → ∀ x, r ≤ x → x < r + n → T x c = 0
  | 0, r, _, x, h1, h2 => by omega
  | n + 1, r, h, x, h1, h2 => by
    unfold efr at h
    by_cases g : T r c = 0
    · rw [if_pos g] at h
      by_cases e : x = r
      · rw [e]; exact g
      · exact efr_none h x (by omega) (by omega)
    · rw [if_neg g] at h; cases h
theorem ets_rk (A : Nat → Nat → Int64) (set : Nat) : ∀ c, (ets A set c).2.1 ≤ 5
  | 0 => by simp [ets]
  | c + 1 => by
    have ih := ets_rk A set c
    show (est1 set c (ets A set c)).2.1 ≤ 5
    unfold est1
    by_cases hs : set.testBit c = true
    · rw [if_pos hs]
      cases hf : efr (ets A set c).1 c (5 - (ets A set c).2.1) (ets A set c).2.1 with
      | none => exact ih
      | some r =>
        have := efr_some hf
        show (ets A set c).2.1 + 1 ≤ 5; omega
    · rw [if_neg hs]; exact ih
