/-! ===== PURE: the elimination in longs is the one over the integers ===== -/
def idm : Nat → Nat → Int := fun r c => if r = c then 1 else 0
theorem DT_id : DT idm = 1 := by decide
theorem DT_idr {r : Nat} (hr : r < 5) (v : Nat → Int) : DT (rpl idm r v) = v r := by
  have := DT_cr hr idm v
  rcases lt5 hr with rfl | rfl | rfl | rfl | rfl <;> rw [DT_id] at this <;> simp [idm] at this <;> exact this
theorem zts_J (A : Nat → Nat → Int) (set : Nat) : ∀ c, (zts A set c).2.2.1 < 2 ^ c ∧ (∀ x, (zts A set c).2.2.1.testBit x = true → set.testBit x = true) ∧ ∃ N sg, ZJ A N sg (zts A set c)
  | 0 => by
    refine ⟨by simp [zts], fun x hx => ?_, idm, 1, Or.inl rfl, by rw [DT_id]; decide, by rw [DT_id]; rfl, by simp [zts], fun r j hr => ?_, fun k _ hk => ⟨k, hk, fun r _ => rfl⟩, fun k hk => absurd hk (by simp [zts]), fun x hx => ?_⟩
    · simp [zts] at hx
    · rw [DT_idr hr]; simp [zts]
    · simp [zts] at hx
  | c + 1 => by
    obtain ⟨h1, h2, N, sg, hJ⟩ := zts_J A set c
    have hp : 2 ^ (c + 1) = 2 ^ c + 2 ^ c := by rw [Nat.pow_succ]; omega
    have base : (zts A set c).2.2.1 < 2 ^ (c + 1) := by omega
    show (zst1 set c (zts A set c)).2.2.1 < 2 ^ (c + 1) ∧ (∀ x, (zst1 set c (zts A set c)).2.2.1.testBit x = true → set.testBit x = true) ∧ ∃ N sg, ZJ A N sg (zst1 set c (zts A set c))
    unfold zst1
    by_cases hs : set.testBit c = true
    · rw [if_pos hs]
      cases hf : zfr (zts A set c).1 c (5 - (zts A set c).2.1) (zts A set c).2.1 with
      | none => exact ⟨base, h2, N, sg, hJ⟩
      | some r =>
        obtain ⟨g1, g2, g3⟩ := zfr_some hf
        have hk5 : (zts A set c).2.1 ≤ 5 := hJ.2.2.2.1
        refine ⟨by show (zts A set c).2.2.1 + 2 ^ c < _; omega, fun x hx => ?_, ?_⟩
        · have hx' : ((zts A set c).2.2.1 + 2 ^ c).testBit x = true := hx
          rw [Nat.add_comm] at hx'
          rcases Nat.lt_trichotomy x c with g | g | g
          · rw [Nat.testBit_two_pow_add_gt g] at hx'; exact h2 x hx'
          · rw [g]; exact hs
          · have h5 : 2 ^ (c + 1) ≤ 2 ^ x := Nat.pow_le_pow_right (by omega) (by omega)
            rw [Nat.testBit_lt_two_pow (by omega)] at hx'; cases hx'
        · by_cases e : r = (zts A set c).2.1
          · have hz : zsw (zts A set c).1 r (zts A set c).2.1 = (zts A set c).1 := by
              funext a b
              unfold zsw
              by_cases q1 : a = r
              · rw [if_pos q1, q1, ← e]
              · rw [if_neg q1, if_neg (by omega)]
            simp only [hz]
            rw [e] at g3
            exact ⟨_, _, ZJ_cl hJ (by omega) g3 h1⟩
          · have hJ2 := ZJ_sw hJ (a := r) (by omega) (by omega)
            have := ZJ_cl (c := c) hJ2 (by show (zts A set c).2.1 < 5; omega) (by show zsw (zts A set c).1 r (zts A set c).2.1 (zts A set c).2.1 c ≠ 0; unfold zsw; rw [if_neg (by omega), if_pos rfl]; exact g3) h1
            exact ⟨_, _, this⟩
    · rw [if_neg hs]; exact ⟨base, h2, N, sg, hJ⟩
/-- entries stay small -/
theorem ZJ_le {A N : Nat → Nat → Int} {sg : Int} {s : ZT} {q : Nat} (h : ZJ A N sg s) (hP : s.2.2.1 < 2 ^ q) (hA : ∀ r c, r < 5 → c < q → (A r c).natAbs ≤ 20) : (∀ r j, r < 5 → j < q → (s.1 r j).natAbs ≤ 384000000) ∧ s.2.2.2.2.natAbs ≤ 384000000 := by
  obtain ⟨b1, b2, b3, b4, b5, b6, b7, b8⟩ := h
  have hN : ∀ r c, r < 5 → c < 5 → (N r c).natAbs ≤ 20 := by
    intro r c hr hc
    by_cases e : c < s.2.1
    · obtain ⟨x, hx, hx2⟩ := b7 c e
      have := (b8 x hx).2 r
      rw [hx2] at this
      rw [this]
      refine hA r x hr ?_
      by_cases g : x < q
      · exact g
      · have h5 : 2 ^ q ≤ 2 ^ x := Nat.pow_le_pow_right (by omega) (by omega)
        rw [Nat.testBit_lt_two_pow (by omega)] at hx; cases hx
    · obtain ⟨p, _, hp⟩ := b6 c (by omega) hc
      rw [hp r hr]
      by_cases g : r = p
      · rw [if_pos g]; decide
      · rw [if_neg g]; decide
  have sgn : ∀ z : Int, (sg * z).natAbs = z.natAbs := by
    intro z
    rcases b1 with rfl | rfl
    · rw [Int.one_mul]
    · rw [Int.neg_mul, Int.one_mul, Int.natAbs_neg]
  refine ⟨fun r j hr hj => ?_, by rw [b3, sgn]; exact DT_le hN⟩
  rw [b5 r j hr, sgn]
  apply DT_le
  intro a c ha hc
  unfold rpl
  by_cases e : c = r
  · rw [if_pos e]; exact hA a j ha hj
  · rw [if_neg e]; exact hN a c ha hc
/-- the same in both -/
def ER (q : Nat) (s : ET) (t : ZT) : Prop := (∀ r j, r < 5 → j < q → (s.1 r j).toInt = t.1 r j) ∧ s.2.1 = t.2.1 ∧ s.2.2.1 = t.2.2.1 ∧ s.2.2.2.1 = t.2.2.2.1 ∧ s.2.2.2.2.toInt = t.2.2.2.2
theorem efr_zfr {T : Nat → Nat → Int64} {Z : Nat → Nat → Int} {c : Nat} : ∀ {n r : Nat}, r + n ≤ 5 → (∀ x, x < 5 → (T x c).toInt = Z x c) → efr T c n r = zfr Z c n r
  | 0, r, _, _ => rfl
  | n + 1, r, h, e => by
    have g := e r (by omega)
    unfold efr zfr
    by_cases q : T r c = 0
    · rw [if_pos q, if_pos (by rw [← g, q, L_0])]
      exact efr_zfr (by omega) e
    · rw [if_neg q, if_neg (fun w => q (L_eq (by rw [g, w, L_0])))]
theorem mul_le {a b : Int} (ha : a.natAbs ≤ 384000000) (hb : b.natAbs ≤ 384000000) : (a * b).natAbs ≤ 147456000000000000 := by
  rw [Int.natAbs_mul]; exact Nat.mul_le_mul ha hb
theorem ets_zts {A : Nat → Nat → Int64} {Z : Nat → Nat → Int} {q : Nat} (set : Nat) (hA : ∀ r c, r < 5 → c < q → (A r c).toInt = Z r c ∧ (Z r c).natAbs ≤ 20) : ∀ c, c ≤ q → ER q (ets A set c) (zts Z set c)
  | 0, _ => ⟨fun r j hr hj => (hA r j hr hj).1, rfl, rfl, rfl, by show (1 : Int64).toInt = (1 : Int); decide⟩
  | c + 1, hc => by
    obtain ⟨e1, e2, e3, e4, e5⟩ := ets_zts set hA c (by omega)
    obtain ⟨h1, h2, N, sg, hJ⟩ := zts_J Z set c
    have hle := ZJ_le (q := q) hJ (Nat.lt_of_lt_of_le h1 (Nat.pow_le_pow_right (by omega) (by omega))) (fun r c hr hc => (hA r c hr hc).2)
    have hk5 : (zts Z set c).2.1 ≤ 5 := hJ.2.2.2.1
    show ER q (est1 set c (ets A set c)) (zst1 set c (zts Z set c))
    unfold est1 zst1
    by_cases hs : set.testBit c = true
    · rw [if_pos hs, if_pos hs, e2, efr_zfr (c := c) (by omega) (fun x hx => e1 x c hx (by omega))]
      cases hf : zfr (zts Z set c).1 c (5 - (zts Z set c).2.1) (zts Z set c).2.1 with
      | none => exact ⟨e1, e2, e3, e4, e5⟩
      | some r =>
        obtain ⟨g1, g2, g3⟩ := zfr_some hf
        have sw : ∀ x j, x < 5 → j < q → (esw (ets A set c).1 r (zts Z set c).2.1 x j).toInt = zsw (zts Z set c).1 r (zts Z set c).2.1 x j ∧ (zsw (zts Z set c).1 r (zts Z set c).2.1 x j).natAbs ≤ 384000000 := by
          intro x j hx hj
          unfold esw zsw
          by_cases q1 : x = r
          · rw [if_pos q1, if_pos q1]; exact ⟨e1 _ _ (by omega) hj, hle.1 _ _ (by omega) hj⟩
          · by_cases q2 : x = (zts Z set c).2.1
            · rw [if_neg q1, if_neg q1, if_pos q2, if_pos q2]; exact ⟨e1 _ _ (by omega) hj, hle.1 _ _ (by omega) hj⟩
            · rw [if_neg q1, if_neg q1, if_neg q2, if_neg q2]; exact ⟨e1 _ _ (by omega) hj, hle.1 _ _ (by omega) hj⟩
        refine ⟨fun x j hx hj => ?_, rfl, by show _ + _ = _ + _; rw [e3], by show (fun j => _) = _; rw [e4], (sw _ _ (by omega) (by omega)).1⟩
        show (ecl (esw (ets A set c).1 r (zts Z set c).2.1) (zts Z set c).2.1 c (ets A set c).2.2.2.2 x j).toInt = zcl (zsw (zts Z set c).1 r (zts Z set c).2.1) (zts Z set c).2.1 c (zts Z set c).2.2.2.2 x j
        unfold ecl zcl
        by_cases q1 : x = (zts Z set c).2.1
        · rw [if_pos q1, if_pos q1]; exact (sw x j hx hj).1
        · rw [if_neg q1, if_neg q1]
          have w1 := sw x j hx hj
          have w2 := sw (zts Z set c).2.1 c (by omega) (by omega)
          have w3 := sw x c hx (by omega)
          have w4 := sw (zts Z set c).2.1 j (by omega) hj
          have m1 := mul_le w1.2 w2.2
          have m2 := mul_le w3.2 w4.2
          exact L_div (L_sub (L_mul w1.1 w2.1 (by omega) (by omega)) (L_mul w3.1 w4.1 (by omega) (by omega)) (by omega) (by omega)) e5 (by omega)
    · rw [if_neg hs, if_neg hs]; exact ⟨e1, e2, e3, e4, e5⟩
