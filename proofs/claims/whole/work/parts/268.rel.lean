/-! ===== PURE: a relation in least whole numbers ===== -/
theorem gch_pos {s : Int} (hs : s ≠ 0) (v : Nat → Int) : ∀ k, 0 < gch s v k
  | 0 => by unfold gch; omega
  | k + 1 => by unfold gch; exact Nat.gcd_pos_of_pos_left _ (gch_pos hs v k)
theorem gch_s (s : Int) (v : Nat → Int) : ∀ k, gch s v k ∣ s.natAbs
  | 0 => Nat.dvd_refl _
  | k + 1 => Nat.dvd_trans (Nat.gcd_dvd_left _ _) (gch_s s v k)
theorem gch_v (s : Int) (v : Nat → Int) : ∀ k i, i < k → gch s v k ∣ (v i).natAbs
  | 0, i, h => by omega
  | k + 1, i, h => by
    by_cases e : i = k
    · rw [e]; exact Nat.gcd_dvd_right _ _
    · exact Nat.dvd_trans (Nat.gcd_dvd_left _ _) (gch_v s v k i (by omega))
theorem gch_pr {s s' : Int} {v v' : Nat → Int} : ∀ k, (∀ i, i < k → v' i * s = v i * s') → gch s' v' k * s.natAbs = gch s v k * s'.natAbs
  | 0, _ => by unfold gch; rw [Nat.mul_comm]
  | k + 1, h => by
    have ih := gch_pr k (fun i hi => h i (by omega))
    have w := congrArg Int.natAbs (h k (by omega))
    rw [Int.natAbs_mul, Int.natAbs_mul] at w
    unfold gch
    rw [← Nat.gcd_mul_right, ← Nat.gcd_mul_right, ih, w]
theorem gch_z {s : Int} {v : Nat → Int} {k : Nat} : ∀ d, (∀ i, k ≤ i → i < k + d → v i = 0) → gch s v (k + d) = gch s v k
  | 0, _ => rfl
  | d + 1, h => by
    show Nat.gcd (gch s v (k + d)) (v (k + d)).natAbs = _
    rw [h (k + d) (by omega) (by omega), gch_z d (fun i h1 h2 => h i h1 (by omega))]; simp
theorem rel_pr {s s' : Int} {v v' : Nat → Int} {k : Nat} (hs : s ≠ 0) (hs' : s' ≠ 0) (h : ∀ i, i < k → v' i * s = v i * s') : s.tdiv (sgd s (gch s v k)) = s'.tdiv (sgd s' (gch s' v' k)) ∧ ∀ i, i < k → (-(v i)).tdiv (sgd s (gch s v k)) = (-(v' i)).tdiv (sgd s' (gch s' v' k)) := by
  have hg := gch_pos hs v k
  have hg' := gch_pos hs' v' k
  obtain ⟨a, ha⟩ := gch_s s v k
  obtain ⟨a', ha'⟩ := gch_s s' v' k
  have hpr := gch_pr k h
  have hD0 : sgd s (gch s v k) ≠ 0 := by unfold sgd; by_cases q : 0 ≤ s <;> simp only [q, if_true, if_false] <;> omega
  have hD0' : sgd s' (gch s' v' k) ≠ 0 := by unfold sgd; by_cases q : 0 ≤ s' <;> simp only [q, if_true, if_false] <;> omega
  have e1 : s = sgd s (gch s v k) * (a : Int) := by
    have : (s.natAbs : Int) = (gch s v k : Int) * (a : Int) := by rw [ha]; push_cast; rfl
    unfold sgd
    by_cases q : 0 ≤ s
    · rw [if_pos q]; omega
    · rw [if_neg q, Int.neg_mul]; omega
  have e1' : s' = sgd s' (gch s' v' k) * (a' : Int) := by
    have : (s'.natAbs : Int) = (gch s' v' k : Int) * (a' : Int) := by rw [ha']; push_cast; rfl
    unfold sgd
    by_cases q : 0 ≤ s'
    · rw [if_pos q]; omega
    · rw [if_neg q, Int.neg_mul]; omega
  have ea : a = a' := by
    rw [ha, ha'] at hpr
    have : (gch s v k * gch s' v' k) * a = (gch s v k * gch s' v' k) * a' := by
      calc (gch s v k * gch s' v' k) * a = gch s' v' k * (gch s v k * a) := by rw [Nat.mul_comm (gch s v k), Nat.mul_assoc]
        _ = gch s v k * (gch s' v' k * a') := hpr
        _ = (gch s v k * gch s' v' k) * a' := by rw [Nat.mul_assoc]
    exact Nat.eq_of_mul_eq_mul_left (Nat.mul_pos hg hg') this
  have ha0 : (a : Int) ≠ 0 := by
    intro e
    rw [e, Int.mul_zero] at e1
    exact hs e1
  have key : ∀ (D : Int) (x : Int), D ≠ 0 → (D * x).tdiv D = x := fun D x hD => Int.mul_tdiv_cancel_left x hD
  generalize hDe : sgd s (gch s v k) = D at *
  generalize hDe' : sgd s' (gch s' v' k) = D' at *
  subst ea
  refine ⟨?_, fun i hi => ?_⟩
  · rw [e1, e1', key _ _ hD0, key _ _ hD0']
  · have hdv : D ∣ v i := by
      rw [← hDe]
      have := Int.natAbs_dvd_natAbs.mp (show ((gch s v k : Int)).natAbs ∣ (v i).natAbs from gch_v s v k i hi)
      unfold sgd
      by_cases q : 0 ≤ s
      · rw [if_pos q]; exact this
      · rw [if_neg q]; exact Int.neg_dvd.mpr this
    have hdv' : D' ∣ v' i := by
      rw [← hDe']
      have := Int.natAbs_dvd_natAbs.mp (show ((gch s' v' k : Int)).natAbs ∣ (v' i).natAbs from gch_v s' v' k i hi)
      unfold sgd
      by_cases q : 0 ≤ s'
      · rw [if_pos q]; exact this
      · rw [if_neg q]; exact Int.neg_dvd.mpr this
    obtain ⟨b, hb⟩ := hdv
    obtain ⟨b', hb'⟩ := hdv'
    have w := h i hi
    rw [hb, hb', e1, e1'] at w
    have w2 : (D * D' * (a : Int)) * b' = (D * D' * (a : Int)) * b := by grind
    have w3 := Int.eq_of_mul_eq_mul_left (by
      intro e
      rcases Int.mul_eq_zero.mp e with q | q
      · rcases Int.mul_eq_zero.mp q with q | q
        · exact hD0 q
        · exact hD0' q
      · exact ha0 q) w2
    rw [hb, hb', ← Int.mul_neg, ← Int.mul_neg, key _ _ hD0, key _ _ hD0', w3]
