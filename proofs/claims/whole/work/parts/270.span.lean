/-! ===== PURE: a free set of the full size has every column ===== -/
/-- N: a full row whose last ones see no column; M: a full row with rho columns; then x is had too -/
theorem span {A N M : Nat → Nat → Int} {rho q x r1 : Nat} (hN : DT N ≠ 0) (hrho : rho < 5) (hz : ∀ r j, rho ≤ r → r < 5 → j < q → DT (rpl N r (fun i => A i j)) = 0) (hM : ∀ k, k < rho → ∃ c, c < q ∧ ∀ r, M r k = A r c) (hx : x < q) (h1 : rho ≤ r1) (h5 : r1 < 5) : DT (rpl M r1 (fun i => A i x)) = 0 := by
  apply Classical.byContradiction
  intro hD
  obtain ⟨y, ⟨i0, hi0, hy0⟩, hy⟩ := ker (4 - rho) (fun i j => DT (rpl N (rho + i) (fun r => rpl M r1 (fun i => A i x) r (skp r1 (rho + j)))))
  have key := lin0 hD (fun v => sm (4 - rho + 1) (fun i => y i * DT (rpl N (rho + i) v))) ?_ ?_ ?_ (fun r => N r (rho + i0))
  · have e : sm (4 - rho + 1) (fun i => y i * DT (rpl N (rho + i) (fun r => N r (rho + i0)))) = y i0 * DT N := by
      rw [sm_skip (p := i0) _ (by omega), rpl_id, sm_z, Int.zero_add]
      intro i hi
      have : skp i0 i ≠ i0 ∧ skp i0 i < 5 - rho := by
        unfold skp
        by_cases g : i < i0
        · rw [if_pos g]; omega
        · rw [if_neg g]; omega
      rw [DT_dup (by omega) (by omega) (by omega), Int.mul_zero]
    have key' : sm (4 - rho + 1) (fun i => y i * DT (rpl N (rho + i) (fun r => N r (rho + i0)))) = 0 := key
    rw [e] at key'
    rcases Int.mul_eq_zero.mp key' with g | g
    · exact hy0 g
    · exact hN g
  · intro a b u v
    rw [← sm_l]
    exact sm_cg (fun i hi => by rw [DT_l (by omega)]; grind)
  · intro u v h
    exact sm_cg (fun i hi => by rw [DT_x (by omega) h])
  · intro c hc
    by_cases g1 : c = r1
    · apply sm_z
      intro i hi
      have : (fun r => rpl M r1 (fun i => A i x) r c) = fun r => A r x := by funext r; rw [g1, rpl_e]
      rw [this, hz _ _ (by omega) (by omega) hx, Int.mul_zero]
    · by_cases g2 : c < rho
      · apply sm_z
        intro i hi
        obtain ⟨j, hj, hj2⟩ := hM c g2
        have : (fun r => rpl M r1 (fun i => A i x) r c) = fun r => A r j := by funext r; rw [rpl_n g1, hj2]
        rw [this, hz _ _ (by omega) (by omega) hj, Int.mul_zero]
      · have hs : ∃ j, j < 4 - rho ∧ skp r1 (rho + j) = c := by
          by_cases g3 : c < r1
          · exact ⟨c - rho, by omega, by unfold skp; rw [if_pos (by omega)]; omega⟩
          · exact ⟨c - 1 - rho, by omega, by unfold skp; rw [if_neg (by omega)]; omega⟩
        obtain ⟨j, hj, rfl⟩ := hs
        exact hy j hj
