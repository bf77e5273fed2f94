/-! ===== PURE: only the pivots count in an elimination ===== -/
theorem ets_lt (A : Nat → Nat → Int64) (set : Nat) : ∀ c, (ets A set c).2.2.1 < 2 ^ c
  | 0 => by simp [ets]
  | c + 1 => by
    have ih := ets_lt A set c
    have hp : 2 ^ (c + 1) = 2 ^ c + 2 ^ c := by rw [Nat.pow_succ]; omega
    show (est1 set c (ets A set c)).2.2.1 < 2 ^ (c + 1)
    unfold est1
    by_cases hs : set.testBit c = true
    · rw [if_pos hs]
      cases hf : efr (ets A set c).1 c (5 - (ets A set c).2.1) (ets A set c).2.1 with
      | none => show (ets A set c).2.2.1 < _; omega
      | some r => show (ets A set c).2.2.1 + 2 ^ c < _; omega
    · rw [if_neg hs]; omega
theorem ets_bit_s {A : Nat → Nat → Int64} {set c x : Nat} (hx : x < c) : (ets A set (c + 1)).2.2.1.testBit x = (ets A set c).2.2.1.testBit x := by
  show (est1 set c (ets A set c)).2.2.1.testBit x = _
  unfold est1
  by_cases hs : set.testBit c = true
  · rw [if_pos hs]
    cases hf : efr (ets A set c).1 c (5 - (ets A set c).2.1) (ets A set c).2.1 with
    | none => rfl
    | some r =>
      show ((ets A set c).2.2.1 + 2 ^ c).testBit x = _
      rw [Nat.add_comm, Nat.testBit_two_pow_add_gt hx]
  · rw [if_neg hs]
theorem ets_bit {A : Nat → Nat → Int64} {set c x : Nat} (hx : x < c) : ∀ d, (ets A set (c + d)).2.2.1.testBit x = (ets A set c).2.2.1.testBit x
  | 0 => rfl
  | d + 1 => by
    show (ets A set (c + d + 1)).2.2.1.testBit x = _
    rw [ets_bit_s (by omega), ets_bit hx d]
/-- a column is a pivot, or it changes nothing -/
theorem ets_step {A : Nat → Nat → Int64} {set c : Nat} : ((ets A set (c + 1)).2.2.1.testBit c = true ∧ set.testBit c = true ∧ ∃ r, efr (ets A set c).1 c (5 - (ets A set c).2.1) (ets A set c).2.1 = some r) ∨ ((ets A set (c + 1)).2.2.1.testBit c = false ∧ ets A set (c + 1) = ets A set c ∧ (set.testBit c = true → efr (ets A set c).1 c (5 - (ets A set c).2.1) (ets A set c).2.1 = none)) := by
  have hl := ets_lt A set c
  have e : ets A set (c + 1) = est1 set c (ets A set c) := rfl
  rw [e]
  unfold est1
  by_cases hs : set.testBit c = true
  · rw [if_pos hs]
    cases hf : efr (ets A set c).1 c (5 - (ets A set c).2.1) (ets A set c).2.1 with
    | none => exact Or.inr ⟨Nat.testBit_lt_two_pow hl, rfl, fun _ => rfl⟩
    | some r =>
      refine Or.inl ⟨?_, hs, r, rfl⟩
      show ((ets A set c).2.2.1 + 2 ^ c).testBit c = true
      rw [Nat.add_comm, Nat.testBit_two_pow_add_eq, Nat.testBit_lt_two_pow hl]; rfl
  · rw [if_neg hs]
    exact Or.inr ⟨Nat.testBit_lt_two_pow hl, rfl, fun h => absurd h hs⟩
/-- the elimination by a set is that by its pivots -/
theorem ets_P {A : Nat → Nat → Int64} {set q : Nat} : ∀ c, c ≤ q → ets A (ets A set q).2.2.1 c = ets A set c
  | 0, _ => rfl
  | c + 1, h => by
    have ih := ets_P (A := A) (set := set) (q := q) c (by omega)
    have hb : (ets A set q).2.2.1.testBit c = (ets A set (c + 1)).2.2.1.testBit c := by
      have := ets_bit (A := A) (set := set) (c := c + 1) (x := c) (by omega) (q - (c + 1))
      rwa [show c + 1 + (q - (c + 1)) = q by omega] at this
    have e : ets A (ets A set q).2.2.1 (c + 1) = est1 (ets A set q).2.2.1 c (ets A (ets A set q).2.2.1 c) := rfl
    rw [e, ih]
    rcases ets_step (A := A) (set := set) (c := c) with ⟨g1, g2, r, g3⟩ | ⟨g1, g2, g3⟩
    · have e2 : ets A set (c + 1) = est1 set c (ets A set c) := rfl
      rw [e2]
      unfold est1
      rw [hb, if_pos g1, if_pos g2]
    · rw [g2]
      unfold est1
      rw [hb, g1, if_neg (by decide)]
/-- sets that are alike below c go alike up to c -/
theorem ets_cg {A : Nat → Nat → Int64} {s t : Nat} : ∀ c, (∀ x, x < c → s.testBit x = t.testBit x) → ets A s c = ets A t c
  | 0, _ => rfl
  | c + 1, h => by
    have ih := ets_cg (A := A) (s := s) (t := t) c (fun x hx => h x (by omega))
    show est1 s c (ets A s c) = est1 t c (ets A t c)
    unfold est1
    rw [ih, h c (by omega)]
