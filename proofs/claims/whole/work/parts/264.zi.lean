/-! ===== PURE: the elimination over the integers, and what holds of it ===== -/
def zfr (T : Nat → Nat → Int) (c : Nat) : Nat → Nat → Option Nat
  | 0, _ => none
  | n + 1, r => if T r c = 0 then zfr T c n (r + 1) else some r
def zsw (T : Nat → Nat → Int) (a b : Nat) : Nat → Nat → Int := fun r j => if r = a then T b j else if r = b then T a j else T r j
def zcl (T : Nat → Nat → Int) (k c : Nat) (sc : Int) : Nat → Nat → Int := fun r j => if r = k then T r j else (T r j * T k c - T r c * T k j).tdiv sc
def zst1 (set c : Nat) (s : ZT) : ZT := if set.testBit c = true then (match zfr s.1 c (5 - s.2.1) s.2.1 with
  | none => s
  | some r => (zcl (zsw s.1 r s.2.1) s.2.1 c s.2.2.2.2, s.2.1 + 1, s.2.2.1 + 2 ^ c, (fun j => if j = c then s.2.1 else s.2.2.2.1 j), zsw s.1 r s.2.1 s.2.1 c)) else s
def zts (A : Nat → Nat → Int) (set : Nat) : Nat → ZT
  | 0 => (A, 0, 0, fun _ => 0, 1)
  | c + 1 => zst1 set c (zts A set c)
theorem zfr_some {T : Nat → Nat → Int} {c : Nat} : ∀ {n r x : Nat}, zfr T c n r = some x → r ≤ x ∧ x < r + n ∧ T x c ≠ 0
  | 0, r, x, h => by cases h
  | n + 1, r, x, h => by
    unfold zfr at h
    by_cases g : T r c = 0
    · rw [if_pos g] at h
      have := zfr_some h
      exact ⟨by omega, by omega, this.2.2⟩
    · rw [if_neg g] at h
      obtain rfl : r = x := by simpa using h
      exact ⟨by omega, by omega, g⟩
theorem zfr_none {T : Nat → Nat → Int} {c : Nat} : ∀ {n r : Nat}, zfr T c n r = none → ∀ x, r ≤ x → x < r + n → T x c = 0
  | 0, r, _, x, h1, h2 => by omega
  | n + 1, r, h, x, h1, h2 => by
    unfold zfr at h
    by_cases g : T r c = 0
    · rw [if_pos g] at h
      by_cases e : x = r
      · rw [e]; exact g
      · exact zfr_none h x (by omega) (by omega)
    · rw [if_neg g] at h; cases h
/-- N: five columns; sg: a sign -/
def ZJ (A : Nat → Nat → Int) (N : Nat → Nat → Int) (sg : Int) (s : ZT) : Prop := (sg = 1 ∨ sg = -1) ∧ DT N ≠ 0 ∧ s.2.2.2.2 = sg * DT N ∧ s.2.1 ≤ 5 ∧ (∀ r j, r < 5 → s.1 r j = sg * DT (rpl N r (fun i => A i j))) ∧ (∀ k, s.2.1 ≤ k → k < 5 → ∃ p, p < 5 ∧ ∀ r, r < 5 → N r k = if r = p then 1 else 0) ∧ (∀ k, k < s.2.1 → ∃ c, s.2.2.1.testBit c = true ∧ s.2.2.2.1 c = k) ∧ (∀ c, s.2.2.1.testBit c = true → s.2.2.2.1 c < s.2.1 ∧ ∀ r, N r (s.2.2.2.1 c) = A r c)
theorem rpl_swc {N : Nat → Nat → Int} {a b r : Nat} (v : Nat → Int) : rpl (swc N a b) r v = swc (rpl N (if r = a then b else if r = b then a else r) v) a b := by
  funext x c
  unfold rpl swc
  by_cases h1 : c = a <;> by_cases h2 : c = b <;> by_cases h3 : r = a <;> by_cases h4 : r = b <;> grind
theorem ZJ_sw {A N : Nat → Nat → Int} {sg : Int} {s : ZT} {a : Nat} (h : ZJ A N sg s) (h1 : s.2.1 < a) (h2 : a < 5) : ZJ A (swc N a s.2.1) (-sg) (zsw s.1 a s.2.1, s.2) := by
  obtain ⟨b1, b2, b3, b4, b5, b6, b7, b8⟩ := h
  have hD : DT (swc N a s.2.1) = - DT N := DT_sw (by omega) h2 (by omega) N
  refine ⟨by omega, by rw [hD]; omega, by rw [hD, b3]; grind, b4, ?_, ?_, b7, ?_⟩
  · intro r j hr
    rw [rpl_swc, DT_sw (by omega) h2 (by omega)]
    show zsw s.1 a s.2.1 r j = _
    unfold zsw
    by_cases e1 : r = a
    · rw [if_pos e1, if_pos e1, b5 _ _ (by omega)]; grind
    · by_cases e2 : r = s.2.1
      · rw [if_neg e1, if_pos e2, if_neg e1, if_pos e2, b5 _ _ (by omega)]; grind
      · rw [if_neg e1, if_neg e2, if_neg e1, if_neg e2, b5 _ _ (by omega)]; grind
  · intro k hk hk5
    have hk' : s.2.1 ≤ k := hk
    unfold swc
    by_cases e1 : k = a
    · rw [if_pos e1]; exact b6 _ (by omega) (by omega)
    · by_cases e2 : k = s.2.1
      · rw [if_neg e1, if_pos e2]; exact b6 _ (by omega) (by omega)
      · rw [if_neg e1, if_neg e2]; exact b6 _ hk' hk5
  · intro c hc
    have := b8 c hc
    refine ⟨this.1, fun r => ?_⟩
    show swc N a s.2.1 r (s.2.2.2.1 c) = _
    unfold swc
    rw [if_neg (by omega), if_neg (by omega)]; exact this.2 r
theorem ZJ_cl {A N : Nat → Nat → Int} {sg : Int} {s : ZT} {c : Nat} (h : ZJ A N sg s) (hk : s.2.1 < 5) (hp : s.1 s.2.1 c ≠ 0) (hP : s.2.2.1 < 2 ^ c) : ZJ A (rpl N s.2.1 (fun i => A i c)) sg (zcl s.1 s.2.1 c s.2.2.2.2, s.2.1 + 1, s.2.2.1 + 2 ^ c, (fun j => if j = c then s.2.1 else s.2.2.2.1 j), s.1 s.2.1 c) := by
  obtain ⟨b1, b2, b3, b4, b5, b6, b7, b8⟩ := h
  have hbit : ∀ x, (s.2.2.1 + 2 ^ c).testBit x = true ↔ x = c ∨ s.2.2.1.testBit x = true := by
    intro x
    rw [Nat.add_comm]
    rcases Nat.lt_trichotomy x c with g | g | g
    · rw [Nat.testBit_two_pow_add_gt g]
      exact ⟨fun h => Or.inr h, fun h => h.resolve_left (by omega)⟩
    · subst g
      rw [Nat.testBit_two_pow_add_eq, Nat.testBit_lt_two_pow hP]; simp
    · have h1 : (2 ^ c + s.2.2.1) < 2 ^ x := by
        have : 2 ^ (c + 1) ≤ 2 ^ x := Nat.pow_le_pow_right (by omega) (by omega)
        have : 2 ^ (c + 1) = 2 ^ c + 2 ^ c := by rw [Nat.pow_succ]; omega
        omega
      have h2 : s.2.2.1 < 2 ^ x := by omega
      rw [Nat.testBit_lt_two_pow h1, Nat.testBit_lt_two_pow h2]
      simp; omega
  have hpe := b5 s.2.1 c hk
  have hD : DT (rpl N s.2.1 (fun i => A i c)) ≠ 0 := by
    intro e; rw [e] at hpe; exact hp (by omega)
  refine ⟨b1, hD, hpe, by show s.2.1 + 1 ≤ 5; omega, ?_, ?_, ?_, ?_⟩
  · intro r j hr
    show zcl s.1 s.2.1 c s.2.2.2.2 r j = _
    unfold zcl
    by_cases e : r = s.2.1
    · rw [if_pos e, b5 r j hr, e, rpl_2]
    · rw [if_neg e, b5 r j hr, hpe, b5 r c hr, b5 s.2.1 j hk, b3]
      have w := plu hr hk e b2 (fun i => A i j) (fun i => A i c)
      have e2 : sg * DT (rpl N r fun i => A i j) * (sg * DT (rpl N s.2.1 fun i => A i c)) - sg * DT (rpl N r fun i => A i c) * (sg * DT (rpl N s.2.1 fun i => A i j)) = (sg * DT N) * (sg * DT (rpl (rpl N s.2.1 fun i => A i c) r fun i => A i j)) := by
        rcases b1 with rfl | rfl <;> grind
      rw [e2, Int.mul_tdiv_cancel_left]
      rcases b1 with rfl | rfl <;> omega
  · intro k hk1 hk5
    have hk1' : s.2.1 + 1 ≤ k := hk1
    obtain ⟨p, hp5, hp6⟩ := b6 k (by omega) hk5
    exact ⟨p, hp5, fun r hr => by rw [rpl_n (by omega)]; exact hp6 r hr⟩
  · intro k hk1
    have hk1' : k < s.2.1 + 1 := hk1
    by_cases e : k = s.2.1
    · exact ⟨c, (hbit c).mpr (Or.inl rfl), by show (if c = c then s.2.1 else s.2.2.2.1 c) = k; rw [if_pos rfl, e]⟩
    · obtain ⟨x, hx, hx2⟩ := b7 k (by omega)
      refine ⟨x, (hbit x).mpr (Or.inr hx), ?_⟩
      show (if x = c then s.2.1 else s.2.2.2.1 x) = k
      have : x ≠ c := fun e => by rw [e, Nat.testBit_lt_two_pow hP] at hx; cases hx
      rw [if_neg this, hx2]
  · intro x hx
    show (if x = c then s.2.1 else s.2.2.2.1 x) < s.2.1 + 1 ∧ ∀ r, rpl N s.2.1 (fun i => A i c) r (if x = c then s.2.1 else s.2.2.2.1 x) = A r x
    by_cases e : x = c
    · rw [if_pos e]
      exact ⟨by omega, fun r => by rw [rpl_e, e]⟩
    · rw [if_neg e]
      have := b8 x (((hbit x).mp hx).resolve_left e)
      exact ⟨by omega, fun r => by rw [rpl_n (by omega)]; exact this.2 r⟩
