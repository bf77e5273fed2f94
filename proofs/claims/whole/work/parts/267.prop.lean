/-! ===== PURE: a loose column only grows in proportion ===== -/
theorem ZJ_ex {A N : Nat → Nat → Int} {sg : Int} {s : ZT} {c r j : Nat} (h : ZJ A N sg s) (hk : s.2.1 < 5) (hr : r < 5) (hne : r ≠ s.2.1) : s.1 r j * s.1 s.2.1 c - s.1 r c * s.1 s.2.1 j = s.2.2.2.2 * zcl s.1 s.2.1 c s.2.2.2.2 r j := by
  obtain ⟨b1, b2, b3, b4, b5, b6, b7, b8⟩ := h
  unfold zcl
  rw [if_neg hne, b5 r j hr, b5 s.2.1 c hk, b5 r c hr, b5 s.2.1 j hk, b3]
  have w := plu hr hk hne b2 (fun i => A i j) (fun i => A i c)
  have e2 : sg * DT (rpl N r fun i => A i j) * (sg * DT (rpl N s.2.1 fun i => A i c)) - sg * DT (rpl N r fun i => A i c) * (sg * DT (rpl N s.2.1 fun i => A i j)) = (sg * DT N) * (sg * DT (rpl (rpl N s.2.1 fun i => A i c) r fun i => A i j)) := by
    rcases b1 with rfl | rfl <;> grind
  rw [e2, Int.mul_tdiv_cancel_left]
  rcases b1 with rfl | rfl <;> omega
theorem ZJ_sc {A N : Nat → Nat → Int} {sg : Int} {s : ZT} (h : ZJ A N sg s) : s.2.2.2.2 ≠ 0 := by
  obtain ⟨b1, b2, b3, _⟩ := h
  rw [b3]
  rcases b1 with rfl | rfl <;> omega
/-- t0: the state at the loose column x, t: a later one -/
def PR (x : Nat) (t0 t : ZT) : Prop := t0.2.1 ≤ t.2.1 ∧ (∀ r, r < 5 → t.1 r x * t0.2.2.2.2 = t0.1 r x * t.2.2.2.2) ∧ (∀ r, r < 5 → t0.2.1 ≤ r → t.1 r x = 0) ∧ ∀ c, t.2.2.1.testBit c = true → (c < x → t.2.2.2.1 c = t0.2.2.2.1 c ∧ t0.2.2.1.testBit c = true) ∧ (x < c → t0.2.1 ≤ t.2.2.2.1 c) ∧ c ≠ x
theorem zts_PR {A : Nat → Nat → Int} {set x : Nat} (hl : ∀ r, (zts A set x).2.1 ≤ r → r < 5 → (zts A set x).1 r x = 0) : ∀ d, PR x (zts A set x) (zts A set (x + 1 + d))
  | 0 => by
    obtain ⟨h1, h2, N, sg, hJ⟩ := zts_J A set x
    have e : zts A set (x + 1 + 0) = zts A set x := by
      show zst1 set x (zts A set x) = zts A set x
      unfold zst1
      by_cases hs : set.testBit x = true
      · rw [if_pos hs]
        cases hf : zfr (zts A set x).1 x (5 - (zts A set x).2.1) (zts A set x).2.1 with
        | none => rfl
        | some r =>
          obtain ⟨g1, g2, g3⟩ := zfr_some hf
          have := hJ.2.2.2.1
          exact absurd (hl r g1 (by omega)) g3
      · rw [if_neg hs]
    rw [e]
    refine ⟨Nat.le_refl _, fun r _ => rfl, fun r h1 h2 => hl r h2 h1, fun c hc => ⟨fun _ => ⟨rfl, hc⟩, fun g => ?_, ?_⟩⟩
    · have h5 : 2 ^ x ≤ 2 ^ c := Nat.pow_le_pow_right (by omega) (by omega)
      rw [Nat.testBit_lt_two_pow (by omega)] at hc; cases hc
    · rintro rfl
      rw [Nat.testBit_lt_two_pow h1] at hc; cases hc
  | d + 1 => by
    obtain ⟨p1, p2, p3, p4⟩ := zts_PR hl d
    obtain ⟨h1, h2, N, sg, hJ⟩ := zts_J A set (x + 1 + d)
    have hk5 : (zts A set (x + 1 + d)).2.1 ≤ 5 := hJ.2.2.2.1
    show PR x (zts A set x) (zst1 set (x + 1 + d) (zts A set (x + 1 + d)))
    unfold zst1
    by_cases hs : set.testBit (x + 1 + d) = true
    · rw [if_pos hs]
      cases hf : zfr (zts A set (x + 1 + d)).1 (x + 1 + d) (5 - (zts A set (x + 1 + d)).2.1) (zts A set (x + 1 + d)).2.1 with
      | none => exact ⟨p1, p2, p3, p4⟩
      | some r0 =>
        obtain ⟨g1, g2, g3⟩ := zfr_some hf
        have hsx : ∀ r, r < 5 → zsw (zts A set (x + 1 + d)).1 r0 (zts A set (x + 1 + d)).2.1 r x = (zts A set (x + 1 + d)).1 r x := by
          intro r hr
          unfold zsw
          by_cases q1 : r = r0
          · rw [if_pos q1, p3 _ (by omega) p1, q1, p3 _ (by omega) (by omega)]
          · by_cases q2 : r = (zts A set (x + 1 + d)).2.1
            · rw [if_neg q1, if_pos q2, p3 r0 (by omega) (by omega), q2, p3 _ (by omega) p1]
            · rw [if_neg q1, if_neg q2]
        have hJ2 : ∃ N sg, ZJ A N sg (zsw (zts A set (x + 1 + d)).1 r0 (zts A set (x + 1 + d)).2.1, (zts A set (x + 1 + d)).2) := by
          by_cases e : r0 = (zts A set (x + 1 + d)).2.1
          · refine ⟨N, sg, ?_⟩
            have hz : zsw (zts A set (x + 1 + d)).1 r0 (zts A set (x + 1 + d)).2.1 = (zts A set (x + 1 + d)).1 := by
              funext a b
              unfold zsw
              by_cases q1 : a = r0
              · rw [if_pos q1, q1, ← e]
              · rw [if_neg q1, if_neg (by omega)]
            rw [hz]; exact hJ
          · exact ⟨_, _, ZJ_sw hJ (a := r0) (by omega) (by omega)⟩
        obtain ⟨N2, sg2, hJ2⟩ := hJ2
        have hz : ∀ r, r < 5 → zcl (zsw (zts A set (x + 1 + d)).1 r0 (zts A set (x + 1 + d)).2.1) (zts A set (x + 1 + d)).2.1 (x + 1 + d) (zts A set (x + 1 + d)).2.2.2.2 r x * (zts A set (x + 1 + d)).2.2.2.2 = (zts A set (x + 1 + d)).1 r x * zsw (zts A set (x + 1 + d)).1 r0 (zts A set (x + 1 + d)).2.1 (zts A set (x + 1 + d)).2.1 (x + 1 + d) := by
          intro r hr
          have hkx : (zts A set (x + 1 + d)).1 (zts A set (x + 1 + d)).2.1 x = 0 := p3 _ (by omega) p1
          by_cases e : r = (zts A set (x + 1 + d)).2.1
          · unfold zcl
            rw [if_pos e, hsx r hr, e, hkx, Int.zero_mul, Int.zero_mul]
          · have w := ZJ_ex (c := x + 1 + d) (j := x) hJ2 (by show (zts A set (x + 1 + d)).2.1 < 5; omega) hr e
            simp only at w
            rw [hsx r hr, hsx (zts A set (x + 1 + d)).2.1 (by omega), hkx] at w
            grind
        have hsc := ZJ_sc hJ
        refine ⟨by show _ ≤ (zts A set (x + 1 + d)).2.1 + 1; omega, ?_, ?_, ?_⟩
        · intro r hr
          have w := hz r hr
          have w2 := p2 r hr
          show zcl _ _ _ _ r x * _ = _ * zsw _ _ _ _ _
          have w3 : (zts A set (x + 1 + d)).2.2.2.2 * (zcl (zsw (zts A set (x + 1 + d)).1 r0 (zts A set (x + 1 + d)).2.1) (zts A set (x + 1 + d)).2.1 (x + 1 + d) (zts A set (x + 1 + d)).2.2.2.2 r x * (zts A set x).2.2.2.2) = (zts A set (x + 1 + d)).2.2.2.2 * ((zts A set x).1 r x * zsw (zts A set (x + 1 + d)).1 r0 (zts A set (x + 1 + d)).2.1 (zts A set (x + 1 + d)).2.1 (x + 1 + d)) := by grind
          exact Int.eq_of_mul_eq_mul_left hsc w3
        · intro r hr hr2
          have w := hz r hr
          rw [p3 r hr hr2, Int.zero_mul] at w
          exact (Int.mul_eq_zero.mp w).resolve_right hsc
        · intro c hc
          have hc' : ((zts A set (x + 1 + d)).2.2.1 + 2 ^ (x + 1 + d)).testBit c = true := hc
          show (c < x → (if c = x + 1 + d then _ else (zts A set (x + 1 + d)).2.2.2.1 c) = _ ∧ _) ∧ (x < c → _ ≤ (if c = x + 1 + d then (zts A set (x + 1 + d)).2.1 else (zts A set (x + 1 + d)).2.2.2.1 c)) ∧ c ≠ x
          by_cases e : c = x + 1 + d
          · exact ⟨fun g => by omega, fun _ => by rw [if_pos e]; exact p1, by omega⟩
          · have hb : (zts A set (x + 1 + d)).2.2.1.testBit c = true := by
              rw [Nat.add_comm] at hc'
              rcases Nat.lt_trichotomy c (x + 1 + d) with g | g | g
              · rwa [Nat.testBit_two_pow_add_gt g] at hc'
              · exact absurd g e
              · have h5 : 2 ^ (x + 1 + d + 1) ≤ 2 ^ c := Nat.pow_le_pow_right (by omega) (by omega)
                have h6 : 2 ^ (x + 1 + d + 1) = 2 ^ (x + 1 + d) + 2 ^ (x + 1 + d) := by rw [Nat.pow_succ]; omega
                rw [Nat.testBit_lt_two_pow (by omega)] at hc'; cases hc'
            rw [if_neg e]
            exact p4 c hb
    · rw [if_neg hs]; exact ⟨p1, p2, p3, p4⟩
