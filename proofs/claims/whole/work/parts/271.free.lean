/-! ===== PURE: rows from the rank on see no column ===== -/
theorem zts_low {A : Nat → Nat → Int} {q : Nat} : ∀ j, j < q → ∀ r, (zts A (2 ^ q - 1) q).2.1 ≤ r → r < 5 → (zts A (2 ^ q - 1) q).1 r j = 0 := by
  intro j hj r hr hr5
  have hset : (2 ^ q - 1).testBit j = true := by rw [Nat.testBit_two_pow_sub_one]; simpa using hj
  obtain ⟨h1, h2, N, sg, hJ⟩ := zts_J A (2 ^ q - 1) q
  by_cases hb : (zts A (2 ^ q - 1) q).2.2.1.testBit j = true
  · obtain ⟨b1, b2, b3, b4, b5, b6, b7, b8⟩ := hJ
    obtain ⟨w1, w2⟩ := b8 j hb
    have e : (fun i => A i j) = fun i => N i ((zts A (2 ^ q - 1) q).2.2.2.1 j) := by funext i; rw [w2]
    rw [b5 r j hr5, e, DT_dup (by omega) (by omega) hr5, Int.mul_zero]
  · have hl : ∀ r, (zts A (2 ^ q - 1) j).2.1 ≤ r → r < 5 → (zts A (2 ^ q - 1) j).1 r j = 0 := by
      intro r' hr' hr5'
      cases hf : zfr (zts A (2 ^ q - 1) j).1 j (5 - (zts A (2 ^ q - 1) j).2.1) (zts A (2 ^ q - 1) j).2.1 with
      | none => exact zfr_none hf r' hr' (by omega)
      | some r0 =>
        exfalso
        apply hb
        have hlt := (zts_J A (2 ^ q - 1) j).1
        have step : (zts A (2 ^ q - 1) (j + 1)).2.2.1 = (zts A (2 ^ q - 1) j).2.2.1 + 2 ^ j := by
          show (zst1 (2 ^ q - 1) j (zts A (2 ^ q - 1) j)).2.2.1 = _
          unfold zst1
          rw [if_pos hset, hf]
        have h0 : (zts A (2 ^ q - 1) (j + 1)).2.2.1.testBit j = true := by
          rw [step, Nat.add_comm, Nat.testBit_two_pow_add_eq, Nat.testBit_lt_two_pow hlt]; rfl
        have mono : ∀ d, (zts A (2 ^ q - 1) (j + 1 + d)).2.2.1.testBit j = true := by
          intro d
          induction d with
          | zero => exact h0
          | succ d ih =>
            show (zst1 (2 ^ q - 1) (j + 1 + d) (zts A (2 ^ q - 1) (j + 1 + d))).2.2.1.testBit j = true
            unfold zst1
            by_cases hs : (2 ^ q - 1).testBit (j + 1 + d) = true
            · rw [if_pos hs]
              cases hg : zfr (zts A (2 ^ q - 1) (j + 1 + d)).1 (j + 1 + d) (5 - (zts A (2 ^ q - 1) (j + 1 + d)).2.1) (zts A (2 ^ q - 1) (j + 1 + d)).2.1 with
              | none => exact ih
              | some r1 =>
                show ((zts A (2 ^ q - 1) (j + 1 + d)).2.2.1 + 2 ^ (j + 1 + d)).testBit j = true
                rw [Nat.add_comm, Nat.testBit_two_pow_add_gt (by omega)]; exact ih
            · rw [if_neg hs]; exact ih
        have := mono (q - (j + 1))
        rwa [show j + 1 + (q - (j + 1)) = q by omega] at this
    have hp := zts_PR hl (q - (j + 1))
    rw [show j + 1 + (q - (j + 1)) = q by omega] at hp
    exact hp.2.2.1 r hr5 (by have := hp.1; omega)
/-- a free set of the full size -/
theorem zts_all {A : Nat → Nat → Int} {q S x r : Nat} (hk : (zts A S q).2.1 = (zts A (2 ^ q - 1) q).2.1) (hx : x < q) (h1 : (zts A S q).2.1 ≤ r) (h5 : r < 5) : (zts A S q).1 r x = 0 := by
  obtain ⟨a1, a2, N, sg, hJ⟩ := zts_J A (2 ^ q - 1) q
  obtain ⟨c1, c2, M, sm, hM⟩ := zts_J A S q
  have hz : ∀ r j, (zts A S q).2.1 ≤ r → r < 5 → j < q → DT (rpl N r (fun i => A i j)) = 0 := by
    intro r j hr hr5 hj
    have w := zts_low (A := A) (q := q) j hj r (by omega) hr5
    rw [hJ.2.2.2.2.1 r j hr5] at w
    rcases Int.mul_eq_zero.mp w with g | g
    · rcases hJ.1 with e | e <;> omega
    · exact g
  rw [hM.2.2.2.2.1 r x h5, span hJ.2.1 (by omega) hz ?_ hx h1 h5, Int.mul_zero]
  intro k hk'
  obtain ⟨c, hc, hc2⟩ := hM.2.2.2.2.2.2.1 k hk'
  have w := (hM.2.2.2.2.2.2.2 c hc).2
  rw [hc2] at w
  refine ⟨c, ?_, w⟩
  by_cases g : c < q
  · exact g
  · have h5 : 2 ^ q ≤ 2 ^ c := Nat.pow_le_pow_right (by omega) (by omega)
    rw [Nat.testBit_lt_two_pow (by omega)] at hc; cases hc
