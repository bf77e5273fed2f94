/-! ===== PURE: relations out of longs ===== -/
theorem gch_cg {s : Int} {v v' : Nat → Int} : ∀ k, (∀ i, i < k → v i = v' i) → gch s v k = gch s v' k
  | 0, _ => rfl
  | k + 1, h => by
    show Nat.gcd (gch s v k) (v k).natAbs = Nat.gcd (gch s v' k) (v' k).natAbs
    rw [gch_cg k (fun i hi => h i (by omega)), h k (by omega)]
/-- the divisor of a relation -/
def rd (t : ZT) (x : Nat) : Int := sgd t.2.2.2.2 (gch t.2.2.2.2 (fun r => t.1 r x) t.2.1)
theorem rl_x (t : ZT) (x : Nat) : rl t x x = t.2.2.2.2.tdiv (rd t x) := by unfold rl; rw [if_pos rfl]; rfl
theorem rl_p {t : ZT} {x p : Nat} (h : p ≠ x) (hb : t.2.2.1.testBit p = true) : rl t x p = (-(t.1 (t.2.2.2.1 p) x)).tdiv (rd t x) := by unfold rl; rw [if_neg h, if_pos hb]; rfl
theorem rl_0 {t : ZT} {x p : Nat} (h : p ≠ x) (hb : ¬ t.2.2.1.testBit p = true) : rl t x p = 0 := by unfold rl; rw [if_neg h, if_neg hb]
/-- what is known of an elimination of small numbers -/
def EQ (q : Nat) (s : ET) : Prop := s.2.2.2.2.toInt ≠ 0 ∧ s.2.2.2.2.toInt.natAbs ≤ 384000000 ∧ (∀ r j, r < 5 → j < q → (s.1 r j).toInt.natAbs ≤ 384000000) ∧ s.2.1 ≤ 5 ∧ s.2.1 = cntS s.2.2.1 q ∧ (∀ x, x < q → s.2.2.1.testBit x = true → s.2.2.2.1 x = cntS s.2.2.1 x) ∧ (s.2.1 = 0 → s.2.2.2.2 = 1) ∧ s.2.2.1 < 2 ^ q
theorem EQ_ok {Z : Nat → Nat → Int} {A : Nat → Nat → Int64} {q : Nat} (hA : ∀ r c, r < 5 → c < q → (A r c).toInt = Z r c ∧ (Z r c).natAbs ≤ 20) (S : Nat) : EQ q (ets A S q) := by
  obtain ⟨hE, z1, z2, z3, z4⟩ := ez_ok hA S
  obtain ⟨E1, E2, E3, E4, E5⟩ := hE
  obtain ⟨c1, c2, c3⟩ := ets_cnt A S q
  exact ⟨by rw [E5]; exact z1, by rw [E5]; exact z3, fun r j hr hj => by rw [E1 r j hr hj]; exact z2 r j hr hj, ets_rk A S q, c1, c2, c3, ets_lt A S q⟩
theorem rl_E {Z : Nat → Nat → Int} {A : Nat → Nat → Int64} {q : Nat} (hA : ∀ r c, r < 5 → c < q → (A r c).toInt = Z r c ∧ (Z r c).natAbs ≤ 20) (S : Nat) {x p : Nat} (hx : x < q) (hp : p < q) : rl (zts Z S q) x p = rl (tz (ets A S q)) x p := by
  obtain ⟨hE, z1, z2, z3, z4⟩ := ez_ok hA S
  obtain ⟨E1, E2, E3, E4, E5⟩ := hE
  have hk := ets_rk A S q
  have hd : rd (zts Z S q) x = rd (tz (ets A S q)) x := by
    unfold rd
    show sgd _ _ = sgd (ets A S q).2.2.2.2.toInt (gch (ets A S q).2.2.2.2.toInt (fun r => ((ets A S q).1 r x).toInt) (ets A S q).2.1)
    rw [E5, ← E2]
    congr 1
    exact gch_cg _ (fun i hi => (E1 i x (by omega) hx).symm)
  by_cases e : p = x
  · subst e
    rw [rl_x, rl_x, hd]
    show _ = ((ets A S q).2.2.2.2.toInt).tdiv _
    rw [E5]
  · by_cases hb : (zts Z S q).2.2.1.testBit p = true
    · have hb' : (tz (ets A S q)).2.2.1.testBit p = true := by
        show (ets A S q).2.2.1.testBit p = true
        rw [E3]; exact hb
      rw [rl_p e hb, rl_p e hb', hd]
      have hr : (ets A S q).2.2.2.1 p < 5 := by
        obtain ⟨c1, c2, c3⟩ := ets_cnt A S q
        have hb2 : (ets A S q).2.2.1.testBit p = true := hb'
        rw [c2 p hp hb2]
        have := cnt_lt hb2 hp
        omega
      show _ = (-((ets A S q).1 ((ets A S q).2.2.2.1 p) x).toInt).tdiv _
      rw [E1 _ _ hr hx, E4]
    · have hb' : ¬ (tz (ets A S q)).2.2.1.testBit p = true := by
        show ¬ (ets A S q).2.2.1.testBit p = true
        rw [E3]; exact hb
      rw [rl_0 e hb, rl_0 e hb']
theorem rl_le {q : Nat} {s : ET} (h : EQ q s) {x p : Nat} (hx : x < q) (hp : p < q) : (rl (tz s) x p).natAbs ≤ 384000000 := by
  obtain ⟨h1, h2, h3, h4, h5, h6, h7, h8⟩ := h
  by_cases e : p = x
  · subst e
    rw [rl_x]
    exact Nat.le_trans tdiv_le h2
  · by_cases hb : (tz s).2.2.1.testBit p = true
    · rw [rl_p e hb]
      refine Nat.le_trans tdiv_le ?_
      rw [Int.natAbs_neg]
      have hb' : s.2.2.1.testBit p = true := hb
      have := cnt_lt hb' hp
      refine h3 _ _ ?_ hx
      show s.2.2.2.1 p < 5
      rw [h6 p hp hb']; omega
    · rw [rl_0 e hb]; decide
/-- a loose one's relation by all pivots is that by the pivots before it -/
theorem rl_own {Z : Nat → Nat → Int} {A : Nat → Nat → Int64} {q : Nat} (hA : ∀ r c, r < 5 → c < q → (A r c).toInt = Z r c ∧ (Z r c).natAbs ≤ 20) {x p : Nat} (hx : x < q) (hp : p < q) (hl : ¬ (ets A (2 ^ q - 1) q).2.2.1.testBit x = true) : rl (tz (ets A (2 ^ q - 1) x)) x p = rl (tz (ets A (2 ^ q - 1) q)) x p := by
  have ER1 := ets_zts (2 ^ q - 1) hA x (by omega)
  have ERq := ets_zts (2 ^ q - 1) hA q (Nat.le_refl _)
  obtain ⟨E1, E2, E3, E4, E5⟩ := ER1
  obtain ⟨F1, F2, F3, F4, F5⟩ := ERq
  have hk0 := ets_rk A (2 ^ q - 1) x
  have hk1 := ets_rk A (2 ^ q - 1) q
  have hbit : ∀ y, y ≤ x → (ets A (2 ^ q - 1) (x + 1)).2.2.1.testBit y = (ets A (2 ^ q - 1) q).2.2.1.testBit y := by
    intro y hy
    have := ets_bit (A := A) (set := 2 ^ q - 1) (c := x + 1) (x := y) (by omega) (q - (x + 1))
    rw [show x + 1 + (q - (x + 1)) = q by omega] at this
    exact this.symm
  have hnone : ∀ r, (ets A (2 ^ q - 1) x).2.1 ≤ r → r < 5 → (ets A (2 ^ q - 1) x).1 r x = 0 := by
    rcases ets_step (A := A) (set := 2 ^ q - 1) (c := x) with ⟨b1, _⟩ | ⟨_, _, b3⟩
    · rw [hbit x (Nat.le_refl _)] at b1; exact absurd b1 hl
    · intro r h1 h2
      exact efr_none (b3 (full_bit hx)) r h1 (by omega)
  have hz : ∀ r, (zts Z (2 ^ q - 1) x).2.1 ≤ r → r < 5 → (zts Z (2 ^ q - 1) x).1 r x = 0 := by
    intro r h1 h2
    rw [← E1 r x h2 hx, hnone r (by omega) h2]; rfl
  have hPR := zts_PR (A := Z) (set := 2 ^ q - 1) hz (q - (x + 1))
  rw [show x + 1 + (q - (x + 1)) = q by omega] at hPR
  obtain ⟨p1, p2, p3, p4⟩ := hPR
  have n0 : (ets A (2 ^ q - 1) x).2.2.2.2.toInt ≠ 0 := by
    rw [E5]; obtain ⟨N, sg, hJ⟩ := (zts_J Z (2 ^ q - 1) x).2.2; exact ZJ_sc hJ
  have n1 : (ets A (2 ^ q - 1) q).2.2.2.2.toInt ≠ 0 := by
    rw [F5]; obtain ⟨N, sg, hJ⟩ := (zts_J Z (2 ^ q - 1) q).2.2; exact ZJ_sc hJ
  have hrel := rel_pr (s := (ets A (2 ^ q - 1) x).2.2.2.2.toInt) (s' := (ets A (2 ^ q - 1) q).2.2.2.2.toInt) (v := fun r => ((ets A (2 ^ q - 1) x).1 r x).toInt) (v' := fun r => ((ets A (2 ^ q - 1) q).1 r x).toInt) (k := (ets A (2 ^ q - 1) x).2.1) n0 n1 (fun i hi => by
    show ((ets A (2 ^ q - 1) q).1 i x).toInt * _ = ((ets A (2 ^ q - 1) x).1 i x).toInt * _
    rw [F1 i x (by omega) hx, E1 i x (by omega) hx, E5, F5]
    exact p2 i (by omega))
  have hzr : ∀ r, (ets A (2 ^ q - 1) x).2.1 ≤ r → r < 5 → ((ets A (2 ^ q - 1) q).1 r x).toInt = 0 := by
    intro r h1 h2
    rw [F1 r x h2 hx]; exact p3 r h2 (by omega)
  have hgz : gch (ets A (2 ^ q - 1) q).2.2.2.2.toInt (fun r => ((ets A (2 ^ q - 1) q).1 r x).toInt) (ets A (2 ^ q - 1) q).2.1 = gch (ets A (2 ^ q - 1) q).2.2.2.2.toInt (fun r => ((ets A (2 ^ q - 1) q).1 r x).toInt) (ets A (2 ^ q - 1) x).2.1 := by
    have hle : (ets A (2 ^ q - 1) x).2.1 ≤ (ets A (2 ^ q - 1) q).2.1 := by rw [E2, F2]; exact p1
    obtain ⟨d, hd⟩ : ∃ d, (ets A (2 ^ q - 1) q).2.1 = (ets A (2 ^ q - 1) x).2.1 + d := ⟨_, (Nat.add_sub_of_le hle).symm⟩
    rw [hd]
    exact gch_z d (fun i h1 h2 => hzr i h1 (by omega))
  have hd1 : rd (tz (ets A (2 ^ q - 1) q)) x = sgd (ets A (2 ^ q - 1) q).2.2.2.2.toInt (gch (ets A (2 ^ q - 1) q).2.2.2.2.toInt (fun r => ((ets A (2 ^ q - 1) q).1 r x).toInt) (ets A (2 ^ q - 1) x).2.1) := by
    unfold rd
    rw [← hgz]; rfl
  have hd0 : rd (tz (ets A (2 ^ q - 1) x)) x = sgd (ets A (2 ^ q - 1) x).2.2.2.2.toInt (gch (ets A (2 ^ q - 1) x).2.2.2.2.toInt (fun r => ((ets A (2 ^ q - 1) x).1 r x).toInt) (ets A (2 ^ q - 1) x).2.1) := rfl
  by_cases e : p = x
  · subst e
    rw [rl_x, rl_x, hd0, hd1]
    exact hrel.1
  · by_cases hb : (ets A (2 ^ q - 1) q).2.2.1.testBit p = true
    · rw [rl_p (t := tz (ets A (2 ^ q - 1) q)) e hb, hd1]
      have hb' : (zts Z (2 ^ q - 1) q).2.2.1.testBit p = true := by rw [← F3]; exact hb
      obtain ⟨w1, w2, w3⟩ := p4 p hb'
      rcases Nat.lt_trichotomy p x with g | g | g
      · obtain ⟨y1, y2⟩ := w1 g
        have hb0 : (ets A (2 ^ q - 1) x).2.2.1.testBit p = true := by rw [E3]; exact y2
        rw [rl_p (t := tz (ets A (2 ^ q - 1) x)) e hb0, hd0]
        have hrow : (ets A (2 ^ q - 1) x).2.2.2.1 p < (ets A (2 ^ q - 1) x).2.1 := by
          obtain ⟨c1, c2, c3⟩ := ets_cnt A (2 ^ q - 1) x
          rw [c2 p g hb0, c1]; exact cnt_lt hb0 g
        have hsame : (ets A (2 ^ q - 1) q).2.2.2.1 p = (ets A (2 ^ q - 1) x).2.2.2.1 p := by rw [F4, E4]; exact y1
        show (-((ets A (2 ^ q - 1) x).1 ((ets A (2 ^ q - 1) x).2.2.2.1 p) x).toInt).tdiv _ = (-((ets A (2 ^ q - 1) q).1 ((ets A (2 ^ q - 1) q).2.2.2.1 p) x).toInt).tdiv _
        rw [hsame]
        exact hrel.2 _ hrow
      · exact absurd g e
      · have hb0 : ¬ (ets A (2 ^ q - 1) x).2.2.1.testBit p = true := lt_nb (ets_lt A _ x) p (by omega)
        rw [rl_0 (t := tz (ets A (2 ^ q - 1) x)) e hb0]
        have hrow : (ets A (2 ^ q - 1) q).2.2.2.1 p < 5 := by
          obtain ⟨c1, c2, c3⟩ := ets_cnt A (2 ^ q - 1) q
          have := cnt_lt hb hp
          rw [c2 p hp hb]; omega
        show 0 = (-((ets A (2 ^ q - 1) q).1 ((ets A (2 ^ q - 1) q).2.2.2.1 p) x).toInt).tdiv _
        rw [hzr _ (by rw [E2, F4]; exact w2 g) hrow]
        simp
    · have hb0 : ¬ (ets A (2 ^ q - 1) x).2.2.1.testBit p = true := by
        by_cases g : p < x
        · have h1 := hbit p (by omega)
          rw [ets_bit_s g] at h1
          rw [h1]; exact hb
        · exact lt_nb (ets_lt A _ x) p (by omega)
      rw [rl_0 (t := tz (ets A (2 ^ q - 1) x)) e hb0, rl_0 (t := tz (ets A (2 ^ q - 1) q)) e hb]
