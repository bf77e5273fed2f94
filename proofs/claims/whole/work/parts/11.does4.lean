/-! ===== the small machine does what the functions say ===== -/
theorem m_isList_s_ok {d : Nat} (hd : 2 ≤ d) {v0 : Int32} {σ : Sg} {r : Int32} {σ2 : Sg} (h : m_isList_s v0 σ = some (r, σ2)) : Ev MT CT d 127 [.int v0] σ (fun v s => v = some (.int r) ∧ s = σ2) := by
  obtain ⟨d, rfl⟩ : ∃ e, d = e + 1 := ⟨d - 1, by omega⟩
  refine ⟨Nat.le_of_ble_eq_true rfl, ?_⟩
  show Rc none (Ev MT CT d) sg127 (0, [(0, .int v0)], [], σ) _
  unfold m_isList_s at h
  have hd : 1 ≤ d := by omega
  refine Rc.blk (c := []) (s2 := (6, [(0, .int v0)], [.long 2, .long 0, .long v0.toInt64], σ)) 0 rfl rfl (trivial) ?_
  obtain ⟨r1, σ1, hc, h⟩ := bd_some h
  refine Rc.call (Ev.mono d) (v := some (.int r1)) (as := [.long v0.toInt64, .long 0, .long 2]) (r := []) 1 rfl rfl rfl rfl (Nat.le_of_ble_eq_true rfl) (m_isIn_s_ok (by omega) hc) ?_
  show Rc _ _ _ (9, [(0, .int v0)], [.int r1], σ1) _
  obtain ⟨g, h⟩ := gd_some h
  obtain ⟨rfl, rfl⟩ := some_pair h
  exact Rc.ret 2 rfl rfl rfl (nbB_ok g) ⟨rfl, rfl⟩
theorem m_isToldPure_117_b59_ok {d : Nat} (hd : 1 ≤ d) {k4 : Int32 → Int32 → Sg → Option (Int32 × Sg)} (hk4 : ∀ (v1 : Int32) (v2 : Int32) (σ : Sg) (r : Int32) (σ2 : Sg), k4 v1 v2 σ = some (r, σ2) → Rc none (Ev MT CT d) sg155 (4, [(0, .ref 117), (1, .int v1), (2, .int v2)], [], σ) (fun v s => v = some (.int r) ∧ s = σ2)) (v2 : Int32) (s0 : Int32) (s1 : Int32) (σ : Sg) (r : Int32) (σ2 : Sg) (h : m_isToldPure_117_b59 k4 v2 s0 s1 σ = some (r, σ2)) : Rc none (Ev MT CT d) sg155 (59, [(0, .ref 117), (2, .int v2)], [.int s1, .int s0], σ) (fun v s => v = some (.int r) ∧ s = σ2) := by
  unfold m_isToldPure_117_b59 at h
  refine Rc.blk (c := []) (s2 := (4, [(2, .int (v2 + 1)), (1, .int (s0 &&& s1)), (0, .ref 117)], [], σ)) 10 rfl rfl (trivial) ?_
  refine Rc.pick [2, 1, 0] (lv2 := [(0, .ref 117), (1, .int (s0 &&& s1)), (2, .int (v2 + 1))]) rfl ?_
  exact hk4 _ _ _ _ _ h
theorem m_isToldPure_117_H14_ok {d : Nat} (hd : 1 ≤ d) {k4 : Int32 → Int32 → Sg → Option (Int32 × Sg)} {k14 : Int32 → Int32 → Int32 → Int32 → Sg → Option (Int32 × Sg)} (hk4 : ∀ (v1 : Int32) (v2 : Int32) (σ : Sg) (r : Int32) (σ2 : Sg), k4 v1 v2 σ = some (r, σ2) → Rc none (Ev MT CT d) sg155 (4, [(0, .ref 117), (1, .int v1), (2, .int v2)], [], σ) (fun v s => v = some (.int r) ∧ s = σ2)) (hk14 : ∀ (v1 : Int32) (v2 : Int32) (v3 : Int32) (v4 : Int32) (σ : Sg) (r : Int32) (σ2 : Sg), k14 v1 v2 v3 v4 σ = some (r, σ2) → Rc none (Ev MT CT d) sg155 (14, [(0, .ref 117), (1, .int v1), (2, .int v2), (3, .int v3), (4, .int v4)], [], σ) (fun v s => v = some (.int r) ∧ s = σ2)) (v1 : Int32) (v2 : Int32) (v3 : Int32) (v4 : Int32) (σ : Sg) (r : Int32) (σ2 : Sg) (h : m_isToldPure_117_H14 k4 k14 v1 v2 v3 v4 σ = some (r, σ2)) : Rc none (Ev MT CT d) sg155 (14, [(0, .ref 117), (1, .int v1), (2, .int v2), (3, .int v3), (4, .int v4)], [], σ) (fun v s => v = some (.int r) ∧ s = σ2) := by
  unfold m_isToldPure_117_H14 at h
  refine Rc.blk (c := [_, _]) (s2 := (if (σ.1 118 0) ≤ v4 then 49 else 25, [(0, .ref 117), (1, .int v1), (2, .int v2), (3, .int v3), (4, .int v4)], [], σ)) 3 rfl rfl (conj_c (rfl) (conj_c (⟨rfl, inB_in (by decide)⟩) (trivial))) ?_
  by_cases c4 : (σ.1 118 0) ≤ v4
  · rw [if_pos c4] at h
    refine Rc.ifp c4 ?_
    refine Rc.blk (c := []) (s2 := (if ¬ v3 = 0 then 58 else 54, [(0, .ref 117), (1, .int v1), (2, .int v2), (3, .int v3), (4, .int v4)], [.int v1], σ)) 7 rfl rfl (trivial) ?_
    by_cases c1 : v3 = 0
    · rw [if_pos c1] at h
      refine Rc.ifn (fun q => q c1) ?_
      refine Rc.blk (c := []) (s2 := (59, [(0, .ref 117), (1, .int v1), (2, .int v2), (3, .int v3), (4, .int v4)], [.int 1, .int v1], σ)) 8 rfl rfl (trivial) ?_
      refine Rc.pick [0, 2] (lv2 := [(0, .ref 117), (2, .int v2)]) rfl ?_
      exact m_isToldPure_117_b59_ok hd hk4 _ _ _ _ _ _ h
    · rw [if_neg c1] at h
      refine Rc.ifp c1 ?_
      refine Rc.blk (c := []) (s2 := (59, [(0, .ref 117), (1, .int v1), (2, .int v2), (3, .int v3), (4, .int v4)], [.int 0, .int v1], σ)) 9 rfl rfl (trivial) ?_
      refine Rc.pick [0, 2] (lv2 := [(0, .ref 117), (2, .int v2)]) rfl ?_
      exact m_isToldPure_117_b59_ok hd hk4 _ _ _ _ _ _ h
  · rw [if_neg c4] at h
    refine Rc.ifn c4 ?_
    obtain ⟨g2, h⟩ := gd_some h
    refine Rc.blk (c := [_, _]) (s2 := (37, [(0, .ref 117), (1, .int v1), (2, .int v2), (3, .int v3), (4, .int v4)], [.int v2, .int v4, .ref 117, .int (σ.1 128 v4.toNatClampNeg), .int v3], σ)) 4 rfl rfl (conj_c (rfl) (conj_c (⟨rfl, inB_in g2⟩) (trivial))) ?_
    obtain ⟨r3, σ3, hc, h⟩ := bd_some h
    refine Rc.call (Ev.mono d) (v := some (.int r3)) (as := [.ref 117, .int v4, .int v2]) (r := [.int (σ.1 128 v4.toNatClampNeg), .int v3]) 5 rfl rfl rfl rfl ⟨rfl, Nat.le_of_ble_eq_true rfl⟩ (m_powerOf_117_ok (by omega) hc) ?_
    show Rc _ _ _ (40, [(0, .ref 117), (1, .int v1), (2, .int v2), (3, .int v3), (4, .int v4)], [.int r3, .int (σ.1 128 v4.toNatClampNeg), .int v3], σ3) _
    refine Rc.blk (c := []) (s2 := (14, [(4, .int (v4 + 1)), (3, .int (v3 + ((σ.1 128 v4.toNatClampNeg) * r3))), (0, .ref 117), (1, .int v1), (2, .int v2)], [], σ3)) 6 rfl rfl (trivial) ?_
    refine Rc.pick [2, 3, 4, 1, 0] (lv2 := [(0, .ref 117), (1, .int v1), (2, .int v2), (3, .int (v3 + ((σ.1 128 v4.toNatClampNeg) * r3))), (4, .int (v4 + 1))]) rfl ?_
    exact hk14 _ _ _ _ _ _ _ h
theorem m_isToldPure_117_L14_ok {d : Nat} (hd : 1 ≤ d) {k4 : Int32 → Int32 → Sg → Option (Int32 × Sg)} (hk4 : ∀ (v1 : Int32) (v2 : Int32) (σ : Sg) (r : Int32) (σ2 : Sg), k4 v1 v2 σ = some (r, σ2) → Rc none (Ev MT CT d) sg155 (4, [(0, .ref 117), (1, .int v1), (2, .int v2)], [], σ) (fun v s => v = some (.int r) ∧ s = σ2)) : ∀ (n : Nat) (v1 : Int32) (v2 : Int32) (v3 : Int32) (v4 : Int32) (σ : Sg) (r : Int32) (σ2 : Sg), m_isToldPure_117_L14 k4 n v1 v2 v3 v4 σ = some (r, σ2) → Rc none (Ev MT CT d) sg155 (14, [(0, .ref 117), (1, .int v1), (2, .int v2), (3, .int v3), (4, .int v4)], [], σ) (fun v s => v = some (.int r) ∧ s = σ2)
  | 0, _, _, _, _, _, _, _, h => by cases h
  | n + 1, v1, v2, v3, v4, σ, r, σ2, h => m_isToldPure_117_H14_ok hd hk4 (m_isToldPure_117_L14_ok hd hk4 n) v1 v2 v3 v4 σ r σ2 h
theorem m_isToldPure_117_H4_ok {d : Nat} (hd : 1 ≤ d) {k4 : Int32 → Int32 → Sg → Option (Int32 × Sg)} (hk4 : ∀ (v1 : Int32) (v2 : Int32) (σ : Sg) (r : Int32) (σ2 : Sg), k4 v1 v2 σ = some (r, σ2) → Rc none (Ev MT CT d) sg155 (4, [(0, .ref 117), (1, .int v1), (2, .int v2)], [], σ) (fun v s => v = some (.int r) ∧ s = σ2)) (v1 : Int32) (v2 : Int32) (σ : Sg) (r : Int32) (σ2 : Sg) (h : m_isToldPure_117_H4 k4 v1 v2 σ = some (r, σ2)) : Rc none (Ev MT CT d) sg155 (4, [(0, .ref 117), (1, .int v1), (2, .int v2)], [], σ) (fun v s => v = some (.int r) ∧ s = σ2) := by
  unfold m_isToldPure_117_H4 at h
  refine Rc.blk (c := []) (s2 := (if 5 ≤ v2 then 67 else 9, [(0, .ref 117), (1, .int v1), (2, .int v2)], [], σ)) 1 rfl rfl (trivial) ?_
  by_cases c1 : 5 ≤ v2
  · rw [if_pos c1] at h
    refine Rc.ifp c1 ?_
    refine Rc.blk (c := []) (s2 := (68, [(0, .ref 117), (1, .int v1), (2, .int v2)], [.int v1], σ)) 11 rfl rfl (trivial) ?_
    obtain ⟨g, h⟩ := gd_some h
    obtain ⟨rfl, rfl⟩ := some_pair h
    exact Rc.ret 12 rfl rfl rfl (nbB_ok g) ⟨rfl, rfl⟩
  · rw [if_neg c1] at h
    refine Rc.ifn c1 ?_
    refine Rc.blk (c := []) (s2 := (14, [(4, .int 0), (3, .int 0), (0, .ref 117), (1, .int v1), (2, .int v2)], [], σ)) 2 rfl rfl (trivial) ?_
    refine Rc.pick [2, 3, 4, 1, 0] (lv2 := [(0, .ref 117), (1, .int v1), (2, .int v2), (3, .int 0), (4, .int 0)]) rfl ?_
    exact m_isToldPure_117_L14_ok hd hk4 fu _ _ _ _ _ _ _ h
theorem m_isToldPure_117_L4_ok {d : Nat} (hd : 1 ≤ d) : ∀ (n : Nat) (v1 : Int32) (v2 : Int32) (σ : Sg) (r : Int32) (σ2 : Sg), m_isToldPure_117_L4 n v1 v2 σ = some (r, σ2) → Rc none (Ev MT CT d) sg155 (4, [(0, .ref 117), (1, .int v1), (2, .int v2)], [], σ) (fun v s => v = some (.int r) ∧ s = σ2)
  | 0, _, _, _, _, _, h => by cases h
  | n + 1, v1, v2, σ, r, σ2, h => m_isToldPure_117_H4_ok hd (m_isToldPure_117_L4_ok hd n) v1 v2 σ r σ2 h
theorem m_isToldPure_117_ok {d : Nat} (hd : 2 ≤ d) {σ : Sg} {r : Int32} {σ2 : Sg} (h : m_isToldPure_117 σ = some (r, σ2)) : Ev MT CT d 155 [.ref 117] σ (fun v s => v = some (.int r) ∧ s = σ2) := by
  obtain ⟨d, rfl⟩ : ∃ e, d = e + 1 := ⟨d - 1, by omega⟩
  refine ⟨Nat.le_of_ble_eq_true rfl, ?_⟩
  show Rc none (Ev MT CT d) sg155 (0, [(0, .ref 117)], [], σ) _
  unfold m_isToldPure_117 at h
  have hd : 1 ≤ d := by omega
  refine Rc.blk (c := []) (s2 := (4, [(2, .int 0), (1, .int 1), (0, .ref 117)], [], σ)) 0 rfl rfl (trivial) ?_
  refine Rc.pick [2, 1, 0] (lv2 := [(0, .ref 117), (1, .int 1), (2, .int 0)]) rfl ?_
  exact m_isToldPure_117_L4_ok hd fu _ _ _ _ _ h
theorem m_tells_117_b44_ok {d : Nat} (hd : 1 ≤ d) {k5 : Int32 → Int32 → Int32 → Int32 → Sg → Option (Int32 × Sg)} (hk5 : ∀ (v1 : Int32) (v2 : Int32) (v3 : Int32) (v4 : Int32) (σ : Sg) (r : Int32) (σ2 : Sg), k5 v1 v2 v3 v4 σ = some (r, σ2) → Rc none (Ev MT CT d) sg154 (5, [(0, .ref 117), (1, .int v1), (2, .int v2), (3, .int v3), (4, .int v4)], [], σ) (fun v s => v = some (.int r) ∧ s = σ2)) (v1 : Int32) (v2 : Int32) (v3 : Int32) (v4 : Int32) (s1 : Int32) (s2 : Int32) (σ : Sg) (r : Int32) (σ2 : Sg) (h : m_tells_117_b44 k5 v1 v2 v3 v4 s1 s2 σ = some (r, σ2)) : Rc none (Ev MT CT d) sg154 (44, [(0, .ref 117), (1, .int v1), (2, .int v2), (3, .int v3), (4, .int v4)], [.int s2, .int s1, .ref 128], σ) (fun v s => v = some (.int r) ∧ s = σ2) := by
  unfold m_tells_117_b44 at h
  obtain ⟨g1, h⟩ := gd_some h
  obtain ⟨g2, h⟩ := gd_some h
  refine Rc.blk (c := [_, _, _]) (s2 := (60, [(0, .ref 117), (1, .int v1), (2, .int v2), (3, .int v3), (4, .int v4)], [.long 99, .long (-99), .long (((si σ 128 s1.toNatClampNeg s2).1 128 v4.toNatClampNeg).toInt64), .int v3], si σ 128 s1.toNatClampNeg s2)) 5 rfl rfl (conj_c (⟨rfl, inB_in g1⟩) (conj_c (rfl) (conj_c (⟨rfl, inB_in g2⟩) (trivial)))) ?_
  obtain ⟨r3, σ3, hc, h⟩ := bd_some h
  refine Rc.call (Ev.mono d) (v := some (.int r3)) (as := [.long (((si σ 128 s1.toNatClampNeg s2).1 128 v4.toNatClampNeg).toInt64), .long (-99), .long 99]) (r := [.int v3]) 6 rfl rfl rfl rfl (Nat.le_of_ble_eq_true rfl) (m_isIn_s_ok (by omega) hc) ?_
  show Rc _ _ _ (63, [(0, .ref 117), (1, .int v1), (2, .int v2), (3, .int v3), (4, .int v4)], [.int r3, .int v3], σ3) _
  refine Rc.blk (c := []) (s2 := (5, [(4, .int (v4 + 1)), (3, .int (v3 &&& r3)), (0, .ref 117), (1, .int v1), (2, .int v2)], [], σ3)) 7 rfl rfl (trivial) ?_
  refine Rc.pick [2, 3, 4, 1, 0] (lv2 := [(0, .ref 117), (1, .int v1), (2, .int v2), (3, .int (v3 &&& r3)), (4, .int (v4 + 1))]) rfl ?_
  exact hk5 _ _ _ _ _ _ _ h
theorem m_tells_117_H5_ok {d : Nat} (hd : 1 ≤ d) {k5 : Int32 → Int32 → Int32 → Int32 → Sg → Option (Int32 × Sg)} (hk5 : ∀ (v1 : Int32) (v2 : Int32) (v3 : Int32) (v4 : Int32) (σ : Sg) (r : Int32) (σ2 : Sg), k5 v1 v2 v3 v4 σ = some (r, σ2) → Rc none (Ev MT CT d) sg154 (5, [(0, .ref 117), (1, .int v1), (2, .int v2), (3, .int v3), (4, .int v4)], [], σ) (fun v s => v = some (.int r) ∧ s = σ2)) (v1 : Int32) (v2 : Int32) (v3 : Int32) (v4 : Int32) (σ : Sg) (r : Int32) (σ2 : Sg) (h : m_tells_117_H5 k5 v1 v2 v3 v4 σ = some (r, σ2)) : Rc none (Ev MT CT d) sg154 (5, [(0, .ref 117), (1, .int v1), (2, .int v2), (3, .int v3), (4, .int v4)], [], σ) (fun v s => v = some (.int r) ∧ s = σ2) := by
  unfold m_tells_117_H5 at h
  refine Rc.blk (c := []) (s2 := (if v2 ≤ v4 then 71 else 11, [(0, .ref 117), (1, .int v1), (2, .int v2), (3, .int v3), (4, .int v4)], [], σ)) 1 rfl rfl (trivial) ?_
  by_cases c4 : v2 ≤ v4
  · rw [if_pos c4] at h
    refine Rc.ifp c4 ?_
    refine Rc.blk (c := []) (s2 := (72, [(0, .ref 117), (1, .int v1), (2, .int v2), (3, .int v3), (4, .int v4)], [.int v3], σ)) 8 rfl rfl (trivial) ?_
    obtain ⟨g, h⟩ := gd_some h
    obtain ⟨rfl, rfl⟩ := some_pair h
    exact Rc.ret 9 rfl rfl rfl (nbB_ok g) ⟨rfl, rfl⟩
  · rw [if_neg c4] at h
    refine Rc.ifn c4 ?_
    obtain ⟨g1, h⟩ := gd_some h
    refine Rc.blk (c := [_, _, _]) (s2 := (if (σ.1 126 v1.toNatClampNeg) ≤ v4 then 43 else 28, [(0, .ref 117), (1, .int v1), (2, .int v2), (3, .int v3), (4, .int v4)], [.int v4, .ref 128], σ)) 2 rfl rfl (conj_c (rfl) (conj_c (rfl) (conj_c (⟨rfl, inB_in g1⟩) (trivial)))) ?_
    by_cases c3 : (σ.1 126 v1.toNatClampNeg) ≤ v4
    · rw [if_pos c3] at h
      refine Rc.ifp c3 ?_
      refine Rc.blk (c := []) (s2 := (44, [(0, .ref 117), (1, .int v1), (2, .int v2), (3, .int v3), (4, .int v4)], [.int 0, .int v4, .ref 128], σ)) 4 rfl rfl (trivial) ?_
      exact m_tells_117_b44_ok hd hk5 _ _ _ _ _ _ _ _ _ h
    · rw [if_neg c3] at h
      refine Rc.ifn c3 ?_
      obtain ⟨g2, h⟩ := gd_some h
      refine Rc.blk (c := [_, _]) (s2 := (44, [(0, .ref 117), (1, .int v1), (2, .int v2), (3, .int v3), (4, .int v4)], [.int (σ.1 127 ((40 * v1) + v4).toNatClampNeg), .int v4, .ref 128], σ)) 3 rfl rfl (conj_c (rfl) (conj_c (⟨rfl, inB_in g2⟩) (trivial))) ?_
      exact m_tells_117_b44_ok hd hk5 _ _ _ _ _ _ _ _ _ h
theorem m_tells_117_L5_ok {d : Nat} (hd : 1 ≤ d) : ∀ (n : Nat) (v1 : Int32) (v2 : Int32) (v3 : Int32) (v4 : Int32) (σ : Sg) (r : Int32) (σ2 : Sg), m_tells_117_L5 n v1 v2 v3 v4 σ = some (r, σ2) → Rc none (Ev MT CT d) sg154 (5, [(0, .ref 117), (1, .int v1), (2, .int v2), (3, .int v3), (4, .int v4)], [], σ) (fun v s => v = some (.int r) ∧ s = σ2)
  | 0, _, _, _, _, _, _, _, h => by cases h
  | n + 1, v1, v2, v3, v4, σ, r, σ2, h => m_tells_117_H5_ok hd (m_tells_117_L5_ok hd n) v1 v2 v3 v4 σ r σ2 h
theorem m_tells_117_ok {d : Nat} (hd : 2 ≤ d) {v1 : Int32} {v2 : Int32} {σ : Sg} {r : Int32} {σ2 : Sg} (h : m_tells_117 v1 v2 σ = some (r, σ2)) : Ev MT CT d 154 [.ref 117, .int v1, .int v2] σ (fun v s => v = some (.int r) ∧ s = σ2) := by
  obtain ⟨d, rfl⟩ : ∃ e, d = e + 1 := ⟨d - 1, by omega⟩
  refine ⟨Nat.le_of_ble_eq_true rfl, ?_⟩
  show Rc none (Ev MT CT d) sg154 (0, [(0, .ref 117), (1, .int v1), (2, .int v2)], [], σ) _
  unfold m_tells_117 at h
  have hd : 1 ≤ d := by omega
  refine Rc.blk (c := []) (s2 := (5, [(4, .int 0), (3, .int 1), (0, .ref 117), (1, .int v1), (2, .int v2)], [], σ)) 0 rfl rfl (trivial) ?_
  refine Rc.pick [2, 3, 4, 1, 0] (lv2 := [(0, .ref 117), (1, .int v1), (2, .int v2), (3, .int 1), (4, .int 0)]) rfl ?_
  exact m_tells_117_L5_ok hd fu _ _ _ _ _ _ _ h
theorem m_pure_117_b61_ok {d : Nat} (hd : 2 ≤ d) (s0 : Int32) (σ : Sg) (r : Int32) (σ2 : Sg) (h : m_pure_117_b61 s0 σ = some (r, σ2)) : Rc none (Ev MT CT d) sg156 (61, [], [.int s0], σ) (fun v s => v = some (.int r) ∧ s = σ2) := by
  unfold m_pure_117_b61 at h
  obtain ⟨rfl, rfl⟩ := some_pair h
  exact Rc.ret 21 rfl rfl rfl trivial ⟨rfl, rfl⟩
theorem m_pure_117_ok {d : Nat} (hd : 3 ≤ d) {v1 : Int32} {σ : Sg} {r : Int32} {σ2 : Sg} (h : m_pure_117 v1 σ = some (r, σ2)) : Ev MT CT d 156 [.ref 117, .int v1] σ (fun v s => v = some (.int r) ∧ s = σ2) := by
  obtain ⟨d, rfl⟩ : ∃ e, d = e + 1 := ⟨d - 1, by omega⟩
  refine ⟨Nat.le_of_ble_eq_true rfl, ?_⟩
  show Rc none (Ev MT CT d) sg156 (0, [(0, .ref 117), (1, .int v1)], [], σ) _
  unfold m_pure_117 at h
  have hd : 2 ≤ d := by omega
  refine Rc.blk (c := []) (s2 := (1, [(0, .ref 117), (1, .int v1)], [.int v1], σ)) 0 rfl rfl (trivial) ?_
  obtain ⟨r1, σ1, hc, h⟩ := bd_some h
  refine Rc.call (Ev.mono d) (v := some (.int r1)) (as := [.int v1]) (r := []) 1 rfl rfl rfl rfl (Nat.le_of_ble_eq_true rfl) (m_isList_s_ok (by omega) hc) ?_
  show Rc _ _ _ (4, [(0, .ref 117), (1, .int v1)], [.int r1], σ1) _
  refine Rc.blk (c := []) (s2 := (if ¬ r1 = 0 then 13 else 7, [(0, .ref 117), (1, .int v1)], [], σ1)) 2 rfl rfl (trivial) ?_
  by_cases c11 : r1 = 0
  · rw [if_pos c11] at h
    refine Rc.ifn (fun q => q c11) ?_
    refine Rc.blk (c := []) (s2 := (9, [(0, .ref 117), (1, .int v1)], [.int 1, .ref 117], σ1)) 3 rfl rfl (trivial) ?_
    obtain ⟨r10, σ10, hc, h⟩ := bd_some h
    refine Rc.call (Ev.mono d) (v := some (.int r10)) (as := [.ref 117, .int 1]) (r := []) 4 rfl rfl rfl rfl ⟨rfl, Nat.le_of_ble_eq_true rfl⟩ (m_refuse_117_ok (by omega) hc) ?_
    show Rc _ _ _ (12, [(0, .ref 117), (1, .int v1)], [.int r10], σ10) _
    obtain ⟨rfl, rfl⟩ := some_pair h
    exact Rc.ret 5 rfl rfl rfl trivial ⟨rfl, rfl⟩
  · rw [if_neg c11] at h
    refine Rc.ifp c11 ?_
    obtain ⟨g2, h⟩ := gd_some h
    refine Rc.blk (c := [_, _]) (s2 := (if 0 ≤ (σ1.1 126 v1.toNatClampNeg) then 29 else 22, [(0, .ref 117), (1, .int v1)], [], σ1)) 6 rfl rfl (conj_c (rfl) (conj_c (⟨rfl, inB_in g2⟩) (trivial))) ?_
    by_cases c9 : 0 ≤ (σ1.1 126 v1.toNatClampNeg)
    · rw [if_pos c9] at h
      refine Rc.ifp c9 ?_
      refine Rc.blk (c := [_, _]) (s2 := (37, [(0, .ref 117), (1, .int v1)], [.int (σ1.1 118 0), .int v1, .ref 117], σ1)) 10 rfl rfl (conj_c (rfl) (conj_c (⟨rfl, inB_in (by decide)⟩) (trivial))) ?_
      obtain ⟨r3, σ3, hc, h⟩ := bd_some h
      refine Rc.call (Ev.mono d) (v := some (.int r3)) (as := [.ref 117, .int v1, .int (σ1.1 118 0)]) (r := []) 11 rfl rfl rfl rfl ⟨rfl, Nat.le_of_ble_eq_true rfl⟩ (m_tells_117_ok (by omega) hc) ?_
      show Rc _ _ _ (40, [(0, .ref 117), (1, .int v1)], [.int r3], σ3) _
      refine Rc.blk (c := []) (s2 := (if ¬ r3 = 0 then 49 else 43, [(0, .ref 117), (1, .int v1)], [], σ3)) 12 rfl rfl (trivial) ?_
      by_cases c7 : r3 = 0
      · rw [if_pos c7] at h
        refine Rc.ifn (fun q => q c7) ?_
        refine Rc.blk (c := []) (s2 := (45, [(0, .ref 117), (1, .int v1)], [.int 3, .ref 117], σ3)) 13 rfl rfl (trivial) ?_
        obtain ⟨r6, σ6, hc, h⟩ := bd_some h
        refine Rc.call (Ev.mono d) (v := some (.int r6)) (as := [.ref 117, .int 3]) (r := []) 14 rfl rfl rfl rfl ⟨rfl, Nat.le_of_ble_eq_true rfl⟩ (m_refuse_117_ok (by omega) hc) ?_
        show Rc _ _ _ (48, [(0, .ref 117), (1, .int v1)], [.int r6], σ6) _
        obtain ⟨rfl, rfl⟩ := some_pair h
        exact Rc.ret 15 rfl rfl rfl trivial ⟨rfl, rfl⟩
      · rw [if_neg c7] at h
        refine Rc.ifp c7 ?_
        refine Rc.blk (c := []) (s2 := (50, [(0, .ref 117), (1, .int v1)], [.ref 117], σ3)) 16 rfl rfl (trivial) ?_
        obtain ⟨r4, σ4, hc, h⟩ := bd_some h
        refine Rc.call (Ev.mono d) (v := some (.int r4)) (as := [.ref 117]) (r := []) 17 rfl rfl rfl rfl ⟨rfl, Nat.le_of_ble_eq_true rfl⟩ (m_isToldPure_117_ok (by omega) hc) ?_
        show Rc _ _ _ (53, [(0, .ref 117), (1, .int v1)], [.int r4], σ4) _
        refine Rc.blk (c := []) (s2 := (if r4 = 0 then 60 else 56, [(0, .ref 117), (1, .int v1)], [], σ4)) 18 rfl rfl (trivial) ?_
        by_cases c5 : r4 = 0
        · rw [if_pos c5] at h
          refine Rc.ifp c5 ?_
          refine Rc.blk (c := []) (s2 := (61, [(0, .ref 117), (1, .int v1)], [.int 0], σ4)) 20 rfl rfl (trivial) ?_
          refine Rc.pick [] (lv2 := []) rfl ?_
          exact m_pure_117_b61_ok hd _ _ _ _ h
        · rw [if_neg c5] at h
          refine Rc.ifn c5 ?_
          refine Rc.blk (c := []) (s2 := (61, [(0, .ref 117), (1, .int v1)], [.int 1], σ4)) 19 rfl rfl (trivial) ?_
          refine Rc.pick [] (lv2 := []) rfl ?_
          exact m_pure_117_b61_ok hd _ _ _ _ h
    · rw [if_neg c9] at h
      refine Rc.ifn c9 ?_
      refine Rc.blk (c := []) (s2 := (25, [(0, .ref 117), (1, .int v1)], [.int 11, .ref 117], σ1)) 7 rfl rfl (trivial) ?_
      obtain ⟨r8, σ8, hc, h⟩ := bd_some h
      refine Rc.call (Ev.mono d) (v := some (.int r8)) (as := [.ref 117, .int 11]) (r := []) 8 rfl rfl rfl rfl ⟨rfl, Nat.le_of_ble_eq_true rfl⟩ (m_refuse_117_ok (by omega) hc) ?_
      show Rc _ _ _ (28, [(0, .ref 117), (1, .int v1)], [.int r8], σ8) _
      obtain ⟨rfl, rfl⟩ := some_pair h
      exact Rc.ret 9 rfl rfl rfl trivial ⟨rfl, rfl⟩
theorem m_partOf_s_b48_ok {d : Nat} (hd : 1 ≤ d) (s0 : Int64) (σ : Sg) (r : Int64) (σ2 : Sg) (h : m_partOf_s_b48 s0 σ = some (r, σ2)) : Rc none (Ev MT CT d) sg124 (48, [], [.long s0], σ) (fun v s => v = some (.long r) ∧ s = σ2) := by
  unfold m_partOf_s_b48 at h
  obtain ⟨rfl, rfl⟩ := some_pair h
  exact Rc.ret 12 rfl rfl rfl trivial ⟨rfl, rfl⟩
theorem m_partOf_s_b30_ok {d : Nat} (hd : 1 ≤ d) (v0 : Int64) (v2 : Int64) (v4 : Int32) (s0 : Int64) (σ : Sg) (r : Int64) (σ2 : Sg) (h : m_partOf_s_b30 v0 v2 v4 s0 σ = some (r, σ2)) : Rc none (Ev MT CT d) sg124 (30, [(0, .long v0), (2, .long v2), (4, .int v4)], [.long s0], σ) (fun v s => v = some (.long r) ∧ s = σ2) := by
  unfold m_partOf_s_b30 at h
  refine Rc.blk (c := []) (s2 := (if ¬ v4 = 0 then 44 else 37, [(5, .long s0), (0, .long v0), (2, .long v2), (4, .int v4)], [], σ)) 9 rfl rfl (trivial) ?_
  by_cases c3 : v4 = 0
  · rw [if_pos c3] at h
    refine Rc.ifn (fun q => q c3) ?_
    obtain ⟨g2, h⟩ := gd_some h
    refine Rc.blk (c := [_]) (s2 := (48, [(5, .long s0), (0, .long v0), (2, .long v2), (4, .int v4)], [.long (v0 / s0)], σ)) 10 rfl rfl (conj_c (neBL_ne g2) (trivial)) ?_
    refine Rc.pick [] (lv2 := []) rfl ?_
    exact m_partOf_s_b48_ok hd _ _ _ _ h
  · rw [if_neg c3] at h
    refine Rc.ifp c3 ?_
    obtain ⟨g1, h⟩ := gd_some h
    refine Rc.blk (c := [_]) (s2 := (48, [(5, .long s0), (0, .long v0), (2, .long v2), (4, .int v4)], [.long (v2 / s0)], σ)) 11 rfl rfl (conj_c (neBL_ne g1) (trivial)) ?_
    refine Rc.pick [] (lv2 := []) rfl ?_
    exact m_partOf_s_b48_ok hd _ _ _ _ h
theorem m_partOf_s_ok {d : Nat} (hd : 2 ≤ d) {v0 : Int64} {v2 : Int64} {v4 : Int32} {σ : Sg} {r : Int64} {σ2 : Sg} (h : m_partOf_s v0 v2 v4 σ = some (r, σ2)) : Ev MT CT d 124 [.long v0, .long v2, .int v4] σ (fun v s => v = some (.long r) ∧ s = σ2) := by
  obtain ⟨d, rfl⟩ : ∃ e, d = e + 1 := ⟨d - 1, by omega⟩
  refine ⟨Nat.le_of_ble_eq_true rfl, ?_⟩
  show Rc none (Ev MT CT d) sg124 (0, [(0, .long v0), (2, .long v2), (4, .int v4)], [], σ) _
  unfold m_partOf_s at h
  have hd : 1 ≤ d := by omega
  refine Rc.blk (c := []) (s2 := (if ¬ (lg_cmp v0 0) = 0 then 10 else 6, [(0, .long v0), (2, .long v2), (4, .int v4)], [], σ)) 0 rfl rfl (trivial) ?_
  by_cases c4 : (lg_cmp v0 0) = 0
  · rw [if_pos c4] at h
    refine Rc.ifn (fun q => q c4) ?_
    refine Rc.blk (c := []) (s2 := (9, [(0, .long v0), (2, .long v2), (4, .int v4)], [.long v4.toInt64], σ)) 1 rfl rfl (trivial) ?_
    obtain ⟨rfl, rfl⟩ := some_pair h
    exact Rc.ret 2 rfl rfl rfl trivial ⟨rfl, rfl⟩
  · rw [if_neg c4] at h
    refine Rc.ifp c4 ?_
    refine Rc.blk (c := []) (s2 := (if 0 ≤ (lg_cmp v2 0) then 25 else 16, [(0, .long v0), (2, .long v2), (4, .int v4)], [], σ)) 3 rfl rfl (trivial) ?_
    by_cases c3 : 0 ≤ (lg_cmp v2 0)
    · rw [if_pos c3] at h
      refine Rc.ifp c3 ?_
      refine Rc.blk (c := []) (s2 := (27, [(0, .long v0), (2, .long v2), (4, .int v4)], [.long v2, .long v0], σ)) 7 rfl rfl (trivial) ?_
      obtain ⟨r1, σ1, hc, h⟩ := bd_some h
      refine Rc.call (Ev.mono d) (v := some (.long r1)) (as := [.long v0, .long v2]) (r := []) 8 rfl rfl rfl rfl (Nat.le_of_ble_eq_true rfl) (m_common_s_ok (by omega) hc) ?_
      show Rc _ _ _ (30, [(0, .long v0), (2, .long v2), (4, .int v4)], [.long r1], σ1) _
      exact m_partOf_s_b30_ok hd _ _ _ _ _ _ _ h
    · rw [if_neg c3] at h
      refine Rc.ifn c3 ?_
      refine Rc.blk (c := []) (s2 := (18, [(0, .long v0), (2, .long v2), (4, .int v4)], [.long v2, .long v0], σ)) 4 rfl rfl (trivial) ?_
      obtain ⟨r2, σ2, hc, h⟩ := bd_some h
      refine Rc.call (Ev.mono d) (v := some (.long r2)) (as := [.long v0, .long v2]) (r := []) 5 rfl rfl rfl rfl (Nat.le_of_ble_eq_true rfl) (m_common_s_ok (by omega) hc) ?_
      show Rc _ _ _ (21, [(0, .long v0), (2, .long v2), (4, .int v4)], [.long r2], σ2) _
      refine Rc.blk (c := []) (s2 := (30, [(0, .long v0), (2, .long v2), (4, .int v4)], [.long (-r2)], σ2)) 6 rfl rfl (trivial) ?_
      exact m_partOf_s_b30_ok hd _ _ _ _ _ _ _ h
theorem m_refuseFarther_117_ok {d : Nat} (hd : 2 ≤ d) {v1 : Int32} {σ : Sg} {r : Int64} {σ2 : Sg} (h : m_refuseFarther_117 v1 σ = some (r, σ2)) : Ev MT CT d 122 [.ref 117, .int v1] σ (fun v s => v = some (.long r) ∧ s = σ2) := by
  obtain ⟨d, rfl⟩ : ∃ e, d = e + 1 := ⟨d - 1, by omega⟩
  refine ⟨Nat.le_of_ble_eq_true rfl, ?_⟩
  show Rc none (Ev MT CT d) sg122 (0, [(0, .ref 117), (1, .int v1)], [], σ) _
  unfold m_refuseFarther_117 at h
  have hd : 1 ≤ d := by omega
  refine Rc.blk (c := []) (s2 := (5, [(0, .ref 117), (1, .int v1)], [.int v1, .ref 117, .long 4000000000000000000], σ)) 0 rfl rfl (trivial) ?_
  obtain ⟨r1, σ1, hc, h⟩ := bd_some h
  refine Rc.call (Ev.mono d) (v := some (.int r1)) (as := [.ref 117, .int v1]) (r := [.long 4000000000000000000]) 1 rfl rfl rfl rfl ⟨rfl, Nat.le_of_ble_eq_true rfl⟩ (m_refuse_117_ok (by omega) hc) ?_
  show Rc _ _ _ (8, [(0, .ref 117), (1, .int v1)], [.int r1, .long 4000000000000000000], σ1) _
  refine Rc.blk (c := []) (s2 := (10, [(0, .ref 117), (1, .int v1)], [.long (4000000000000000000 - r1.toInt64)], σ1)) 2 rfl rfl (trivial) ?_
  obtain ⟨rfl, rfl⟩ := some_pair h
  exact Rc.ret 3 rfl rfl rfl trivial ⟨rfl, rfl⟩
theorem m_cover_117_b77_ok {d : Nat} (hd : 6 ≤ d) (v3 : Int32) (v4 : Int32) (s0 : Int32) (σ : Sg) (r : Int64) (σ2 : Sg) (h : m_cover_117_b77 v3 v4 s0 σ = some (r, σ2)) : Rc none (Ev MT CT d) sg157 (77, [(0, .ref 117), (3, .int v3), (4, .int v4)], [.int s0], σ) (fun v s => v = some (.long r) ∧ s = σ2) := by
  unfold m_cover_117_b77 at h
  refine Rc.blk (c := []) (s2 := (if s0 = 0 then 91 else 84, [(5, .int s0), (0, .ref 117), (3, .int v3), (4, .int v4)], [], σ)) 21 rfl rfl (trivial) ?_
  by_cases c6 : s0 = 0
  · rw [if_pos c6] at h
    refine Rc.ifp c6 ?_
    refine Rc.blk (c := []) (s2 := (94, [(5, .int s0), (0, .ref 117), (3, .int v3), (4, .int v4)], [.int v4, .ref 117], σ)) 25 rfl rfl (trivial) ?_
    obtain ⟨r1, σ1, hc, h⟩ := bd_some h
    refine Rc.call (Ev.mono d) (v := none) (as := [.ref 117, .int v4]) (r := []) 26 rfl rfl rfl rfl ⟨rfl, Nat.le_of_ble_eq_true rfl⟩ (m_groups_117_ok (by omega) hc) ?_
    show Rc _ _ _ (97, [(5, .int s0), (0, .ref 117), (3, .int v3), (4, .int v4)], [], σ1) _
    obtain ⟨g2, h⟩ := gd_some h
    obtain ⟨g3, h⟩ := gd_some h
    refine Rc.blk (c := [_, _, _, _]) (s2 := (113, [(5, .int s0), (0, .ref 117), (3, .int v3), (4, .int v4)], [.int v3, .long (σ1.2 124 v4.toNatClampNeg), .long ((σ1.1 128 v4.toNatClampNeg).toInt64)], σ1)) 27 rfl rfl (conj_c (rfl) (conj_c (⟨rfl, inB_in g2⟩) (conj_c (rfl) (conj_c (⟨rfl, inB_in g3⟩) (trivial))))) ?_
    obtain ⟨r4, σ4, hc, h⟩ := bd_some h
    refine Rc.call (Ev.mono d) (v := some (.long r4)) (as := [.long ((σ1.1 128 v4.toNatClampNeg).toInt64), .long (σ1.2 124 v4.toNatClampNeg), .int v3]) (r := []) 28 rfl rfl rfl rfl (Nat.le_of_ble_eq_true rfl) (m_partOf_s_ok (by omega) hc) ?_
    show Rc _ _ _ (116, [(5, .int s0), (0, .ref 117), (3, .int v3), (4, .int v4)], [.long r4], σ4) _
    obtain ⟨rfl, rfl⟩ := some_pair h
    exact Rc.ret 29 rfl rfl rfl trivial ⟨rfl, rfl⟩
  · rw [if_neg c6] at h
    refine Rc.ifn c6 ?_
    refine Rc.blk (c := []) (s2 := (87, [(5, .int s0), (0, .ref 117), (3, .int v3), (4, .int v4)], [.int s0, .ref 117], σ)) 22 rfl rfl (trivial) ?_
    obtain ⟨r5, σ5, hc, h⟩ := bd_some h
    refine Rc.call (Ev.mono d) (v := some (.long r5)) (as := [.ref 117, .int s0]) (r := []) 23 rfl rfl rfl rfl ⟨rfl, Nat.le_of_ble_eq_true rfl⟩ (m_refuseFarther_117_ok (by omega) hc) ?_
    show Rc _ _ _ (90, [(5, .int s0), (0, .ref 117), (3, .int v3), (4, .int v4)], [.long r5], σ5) _
    obtain ⟨rfl, rfl⟩ := some_pair h
    exact Rc.ret 24 rfl rfl rfl trivial ⟨rfl, rfl⟩
theorem m_cover_117_b19_ok {d : Nat} (hd : 6 ≤ d) (v3 : Int32) (v4 : Int32) (σ : Sg) (r : Int64) (σ2 : Sg) (h : m_cover_117_b19 v3 v4 σ = some (r, σ2)) : Rc none (Ev MT CT d) sg157 (19, [(0, .ref 117), (3, .int v3), (4, .int v4)], [], σ) (fun v s => v = some (.long r) ∧ s = σ2) := by
  unfold m_cover_117_b19 at h
  refine Rc.blk (c := []) (s2 := (77, [(0, .ref 117), (3, .int v3), (4, .int v4)], [.int 1], σ)) 6 rfl rfl (trivial) ?_
  exact m_cover_117_b77_ok hd _ _ _ _ _ _ h
theorem m_cover_117_b72_ok {d : Nat} (hd : 6 ≤ d) (v3 : Int32) (v4 : Int32) (σ : Sg) (r : Int64) (σ2 : Sg) (h : m_cover_117_b72 v3 v4 σ = some (r, σ2)) : Rc none (Ev MT CT d) sg157 (72, [(0, .ref 117), (3, .int v3), (4, .int v4)], [], σ) (fun v s => v = some (.long r) ∧ s = σ2) := by
  unfold m_cover_117_b72 at h
  refine Rc.blk (c := []) (s2 := (77, [(0, .ref 117), (3, .int v3), (4, .int v4)], [.int 3], σ)) 19 rfl rfl (trivial) ?_
  exact m_cover_117_b77_ok hd _ _ _ _ _ _ h
theorem m_cover_117_ok {d : Nat} (hd : 7 ≤ d) {v1 : Int32} {v2 : Int32} {v3 : Int32} {σ : Sg} {r : Int64} {σ2 : Sg} (h : m_cover_117 v1 v2 v3 σ = some (r, σ2)) : Ev MT CT d 157 [.ref 117, .int v1, .int v2, .int v3] σ (fun v s => v = some (.long r) ∧ s = σ2) := by
  obtain ⟨d, rfl⟩ : ∃ e, d = e + 1 := ⟨d - 1, by omega⟩
  refine ⟨Nat.le_of_ble_eq_true rfl, ?_⟩
  show Rc none (Ev MT CT d) sg157 (0, [(0, .ref 117), (1, .int v1), (2, .int v2), (3, .int v3)], [], σ) _
  unfold m_cover_117 at h
  have hd : 6 ≤ d := by omega
  refine Rc.blk (c := []) (s2 := (2, [(0, .ref 117), (1, .int v1), (2, .int v2), (3, .int v3)], [.int v2, .ref 117], σ)) 0 rfl rfl (trivial) ?_
  obtain ⟨r1, σ1, hc, h⟩ := bd_some h
  refine Rc.call (Ev.mono d) (v := some (.int r1)) (as := [.ref 117, .int v2]) (r := []) 1 rfl rfl rfl rfl ⟨rfl, Nat.le_of_ble_eq_true rfl⟩ (m_ownOf_117_ok (by omega) hc) ?_
  show Rc _ _ _ (5, [(0, .ref 117), (1, .int v1), (2, .int v2), (3, .int v3)], [.int r1], σ1) _
  refine Rc.blk (c := []) (s2 := (8, [(4, .int r1), (0, .ref 117), (1, .int v1), (2, .int v2), (3, .int v3)], [.int v1], σ1)) 2 rfl rfl (trivial) ?_
  obtain ⟨r2, σ2, hc, h⟩ := bd_some h
  refine Rc.call (Ev.mono d) (v := some (.int r2)) (as := [.int v1]) (r := []) 3 rfl rfl rfl rfl (Nat.le_of_ble_eq_true rfl) (m_isList_s_ok (by omega) hc) ?_
  show Rc _ _ _ (11, [(4, .int r1), (0, .ref 117), (1, .int v1), (2, .int v2), (3, .int v3)], [.int r2], σ2) _
  refine Rc.blk (c := []) (s2 := (if r2 = 0 then 19 else 14, [(4, .int r1), (0, .ref 117), (1, .int v1), (2, .int v2), (3, .int v3)], [], σ2)) 4 rfl rfl (trivial) ?_
  by_cases c12 : r2 = 0
  · rw [if_pos c12] at h
    refine Rc.ifp c12 ?_
    refine Rc.pick [1, 4, 0] (lv2 := [(0, .ref 117), (3, .int v3), (4, .int r1)]) rfl ?_
    exact m_cover_117_b19_ok hd _ _ _ _ _ h
  · rw [if_neg c12] at h
    refine Rc.ifn c12 ?_
    refine Rc.blk (c := []) (s2 := (if 0 ≤ r1 then 23 else 19, [(4, .int r1), (0, .ref 117), (1, .int v1), (2, .int v2), (3, .int v3)], [], σ2)) 5 rfl rfl (trivial) ?_
    by_cases c11 : 0 ≤ r1
    · rw [if_pos c11] at h
      refine Rc.ifp c11 ?_
      refine Rc.blk (c := []) (s2 := (27, [(4, .int r1), (0, .ref 117), (1, .int v1), (2, .int v2), (3, .int v3)], [.long 1, .long 0, .long v3.toInt64], σ2)) 7 rfl rfl (trivial) ?_
      obtain ⟨r3, σ3, hc, h⟩ := bd_some h
      refine Rc.call (Ev.mono d) (v := some (.int r3)) (as := [.long v3.toInt64, .long 0, .long 1]) (r := []) 8 rfl rfl rfl rfl (Nat.le_of_ble_eq_true rfl) (m_isIn_s_ok (by omega) hc) ?_
      show Rc _ _ _ (30, [(4, .int r1), (0, .ref 117), (1, .int v1), (2, .int v2), (3, .int v3)], [.int r3], σ3) _
      refine Rc.blk (c := []) (s2 := (if ¬ r3 = 0 then 37 else 33, [(4, .int r1), (0, .ref 117), (1, .int v1), (2, .int v2), (3, .int v3)], [], σ3)) 9 rfl rfl (trivial) ?_
      by_cases c10 : r3 = 0
      · rw [if_pos c10] at h
        refine Rc.ifn (fun q => q c10) ?_
        refine Rc.blk (c := []) (s2 := (77, [(4, .int r1), (0, .ref 117), (1, .int v1), (2, .int v2), (3, .int v3)], [.int 2], σ3)) 10 rfl rfl (trivial) ?_
        refine Rc.pick [1, 4, 0] (lv2 := [(0, .ref 117), (3, .int v3), (4, .int r1)]) rfl ?_
        exact m_cover_117_b77_ok hd _ _ _ _ _ _ h
      · rw [if_neg c10] at h
        refine Rc.ifp c10 ?_
        obtain ⟨g4, h⟩ := gd_some h
        refine Rc.blk (c := [_, _]) (s2 := (if 0 ≤ (σ3.1 126 v1.toNatClampNeg) then 51 else 46, [(4, .int r1), (0, .ref 117), (1, .int v1), (2, .int v2), (3, .int v3)], [], σ3)) 11 rfl rfl (conj_c (rfl) (conj_c (⟨rfl, inB_in g4⟩) (trivial))) ?_
        by_cases c9 : 0 ≤ (σ3.1 126 v1.toNatClampNeg)
        · rw [if_pos c9] at h
          refine Rc.ifp c9 ?_
          refine Rc.blk (c := [_, _]) (s2 := (59, [(4, .int r1), (0, .ref 117), (1, .int v1), (2, .int v2), (3, .int v3)], [.int (σ3.1 118 0), .int v1, .ref 117], σ3)) 13 rfl rfl (conj_c (rfl) (conj_c (⟨rfl, inB_in (by decide)⟩) (trivial))) ?_
          obtain ⟨r5, σ5, hc, h⟩ := bd_some h
          refine Rc.call (Ev.mono d) (v := some (.int r5)) (as := [.ref 117, .int v1, .int (σ3.1 118 0)]) (r := []) 14 rfl rfl rfl rfl ⟨rfl, Nat.le_of_ble_eq_true rfl⟩ (m_tells_117_ok (by omega) hc) ?_
          show Rc _ _ _ (62, [(4, .int r1), (0, .ref 117), (1, .int v1), (2, .int v2), (3, .int v3)], [.int r5], σ5) _
          refine Rc.blk (c := []) (s2 := (if r5 = 0 then 72 else 65, [(4, .int r1), (0, .ref 117), (1, .int v1), (2, .int v2), (3, .int v3)], [], σ5)) 15 rfl rfl (trivial) ?_
          by_cases c8 : r5 = 0
          · rw [if_pos c8] at h
            refine Rc.ifp c8 ?_
            refine Rc.pick [1, 4, 0] (lv2 := [(0, .ref 117), (3, .int v3), (4, .int r1)]) rfl ?_
            exact m_cover_117_b72_ok hd _ _ _ _ _ h
          · rw [if_neg c8] at h
            refine Rc.ifn c8 ?_
            refine Rc.blk (c := []) (s2 := (66, [(4, .int r1), (0, .ref 117), (1, .int v1), (2, .int v2), (3, .int v3)], [.ref 117], σ5)) 16 rfl rfl (trivial) ?_
            obtain ⟨r6, σ6, hc, h⟩ := bd_some h
            refine Rc.call (Ev.mono d) (v := some (.int r6)) (as := [.ref 117]) (r := []) 17 rfl rfl rfl rfl ⟨rfl, Nat.le_of_ble_eq_true rfl⟩ (m_isToldPure_117_ok (by omega) hc) ?_
            show Rc _ _ _ (69, [(4, .int r1), (0, .ref 117), (1, .int v1), (2, .int v2), (3, .int v3)], [.int r6], σ6) _
            refine Rc.blk (c := []) (s2 := (if ¬ r6 = 0 then 76 else 72, [(4, .int r1), (0, .ref 117), (1, .int v1), (2, .int v2), (3, .int v3)], [], σ6)) 18 rfl rfl (trivial) ?_
            by_cases c7 : r6 = 0
            · rw [if_pos c7] at h
              refine Rc.ifn (fun q => q c7) ?_
              refine Rc.pick [1, 4, 0] (lv2 := [(0, .ref 117), (3, .int v3), (4, .int r1)]) rfl ?_
              exact m_cover_117_b72_ok hd _ _ _ _ _ h
            · rw [if_neg c7] at h
              refine Rc.ifp c7 ?_
              refine Rc.blk (c := []) (s2 := (77, [(4, .int r1), (0, .ref 117), (1, .int v1), (2, .int v2), (3, .int v3)], [.int 0], σ6)) 20 rfl rfl (trivial) ?_
              refine Rc.pick [1, 4, 0] (lv2 := [(0, .ref 117), (3, .int v3), (4, .int r1)]) rfl ?_
              exact m_cover_117_b77_ok hd _ _ _ _ _ _ h
        · rw [if_neg c9] at h
          refine Rc.ifn c9 ?_
          refine Rc.blk (c := []) (s2 := (77, [(4, .int r1), (0, .ref 117), (1, .int v1), (2, .int v2), (3, .int v3)], [.int 11], σ3)) 12 rfl rfl (trivial) ?_
          refine Rc.pick [1, 4, 0] (lv2 := [(0, .ref 117), (3, .int v3), (4, .int r1)]) rfl ?_
          exact m_cover_117_b77_ok hd _ _ _ _ _ _ h
    · rw [if_neg c11] at h
      refine Rc.ifn c11 ?_
      refine Rc.pick [1, 4, 0] (lv2 := [(0, .ref 117), (3, .int v3), (4, .int r1)]) rfl ?_
      exact m_cover_117_b19_ok hd _ _ _ _ _ h
theorem m_box_117_b108_ok {d : Nat} (hd : 2 ≤ d) {k29 : Int32 → Int32 → Sg → Option (Int32 × Sg)} (hk29 : ∀ (v1 : Int32) (v2 : Int32) (σ : Sg) (r : Int32) (σ2 : Sg), k29 v1 v2 σ = some (r, σ2) → Rc none (Ev MT CT d) sg158 (29, [(0, .ref 117), (1, .int v1), (2, .int v2)], [], σ) (fun v s => v = some (.int r) ∧ s = σ2)) (v1 : Int32) (v2 : Int32) (σ : Sg) (r : Int32) (σ2 : Sg) (h : m_box_117_b108 k29 v1 v2 σ = some (r, σ2)) : Rc none (Ev MT CT d) sg158 (108, [(0, .ref 117), (1, .int v1), (2, .int v2)], [], σ) (fun v s => v = some (.int r) ∧ s = σ2) := by
  unfold m_box_117_b108 at h
  refine Rc.blk (c := []) (s2 := (29, [(0, .ref 117), (1, .int v1), (2, .int v2)], [], σ)) 19 rfl rfl (trivial) ?_
  exact hk29 _ _ _ _ _ h
theorem m_box_117_b93_ok {d : Nat} (hd : 2 ≤ d) {k29 : Int32 → Int32 → Sg → Option (Int32 × Sg)} (hk29 : ∀ (v1 : Int32) (v2 : Int32) (σ : Sg) (r : Int32) (σ2 : Sg), k29 v1 v2 σ = some (r, σ2) → Rc none (Ev MT CT d) sg158 (29, [(0, .ref 117), (1, .int v1), (2, .int v2)], [], σ) (fun v s => v = some (.int r) ∧ s = σ2)) (v1 : Int32) (v3 : Int32) (s0 : Int32) (σ : Sg) (r : Int32) (σ2 : Sg) (h : m_box_117_b93 k29 v1 v3 s0 σ = some (r, σ2)) : Rc none (Ev MT CT d) sg158 (93, [(0, .ref 117), (1, .int v1), (3, .int v3)], [.int s0], σ) (fun v s => v = some (.int r) ∧ s = σ2) := by
  unfold m_box_117_b93 at h
  refine Rc.blk (c := []) (s2 := (if s0 = 0 then 108 else 98, [(2, .int s0), (0, .ref 117), (1, .int v1), (3, .int v3)], [], σ)) 17 rfl rfl (trivial) ?_
  by_cases c3 : s0 = 0
  · rw [if_pos c3] at h
    refine Rc.ifp c3 ?_
    refine Rc.pick [1, 2, 0] (lv2 := [(0, .ref 117), (1, .int v1), (2, .int s0)]) rfl ?_
    exact m_box_117_b108_ok hd hk29 _ _ _ _ _ h
  · rw [if_neg c3] at h
    refine Rc.ifn c3 ?_
    obtain ⟨g1, h⟩ := gd_some h
    obtain ⟨g2, h⟩ := gd_some h
    refine Rc.blk (c := [_, _, _, _]) (s2 := (108, [(2, .int s0), (0, .ref 117), (1, .int v1), (3, .int v3)], [], si σ 128 v3.toNatClampNeg ((σ.1 128 v3.toNatClampNeg) + 1))) 18 rfl rfl (conj_c (rfl) (conj_c (⟨rfl, rfl⟩) (conj_c (⟨rfl, inB_in g1⟩) (conj_c (⟨rfl, inB_in g2⟩) (trivial))))) ?_
    refine Rc.pick [1, 2, 0] (lv2 := [(0, .ref 117), (1, .int v1), (2, .int s0)]) rfl ?_
    exact m_box_117_b108_ok hd hk29 _ _ _ _ _ h
theorem m_box_117_b84_ok {d : Nat} (hd : 2 ≤ d) {k29 : Int32 → Int32 → Sg → Option (Int32 × Sg)} (hk29 : ∀ (v1 : Int32) (v2 : Int32) (σ : Sg) (r : Int32) (σ2 : Sg), k29 v1 v2 σ = some (r, σ2) → Rc none (Ev MT CT d) sg158 (29, [(0, .ref 117), (1, .int v1), (2, .int v2)], [], σ) (fun v s => v = some (.int r) ∧ s = σ2)) (v1 : Int32) (v3 : Int32) (σ : Sg) (r : Int32) (σ2 : Sg) (h : m_box_117_b84 k29 v1 v3 σ = some (r, σ2)) : Rc none (Ev MT CT d) sg158 (84, [(0, .ref 117), (1, .int v1), (3, .int v3)], [], σ) (fun v s => v = some (.int r) ∧ s = σ2) := by
  unfold m_box_117_b84 at h
  refine Rc.blk (c := []) (s2 := (if v3 < 0 then 92 else 88, [(0, .ref 117), (1, .int v1), (3, .int v3)], [], σ)) 14 rfl rfl (trivial) ?_
  by_cases c1 : v3 < 0
  · rw [if_pos c1] at h
    refine Rc.ifp c1 ?_
    refine Rc.blk (c := []) (s2 := (93, [(0, .ref 117), (1, .int v1), (3, .int v3)], [.int 0], σ)) 16 rfl rfl (trivial) ?_
    exact m_box_117_b93_ok hd hk29 _ _ _ _ _ _ h
  · rw [if_neg c1] at h
    refine Rc.ifn c1 ?_
    refine Rc.blk (c := []) (s2 := (93, [(0, .ref 117), (1, .int v1), (3, .int v3)], [.int 1], σ)) 15 rfl rfl (trivial) ?_
    exact m_box_117_b93_ok hd hk29 _ _ _ _ _ _ h
theorem m_box_117_H57_ok {d : Nat} (hd : 2 ≤ d) {k29 : Int32 → Int32 → Sg → Option (Int32 × Sg)} {k57 : Int32 → Int32 → Sg → Option (Int32 × Sg)} (hk29 : ∀ (v1 : Int32) (v2 : Int32) (σ : Sg) (r : Int32) (σ2 : Sg), k29 v1 v2 σ = some (r, σ2) → Rc none (Ev MT CT d) sg158 (29, [(0, .ref 117), (1, .int v1), (2, .int v2)], [], σ) (fun v s => v = some (.int r) ∧ s = σ2)) (hk57 : ∀ (v1 : Int32) (v3 : Int32) (σ : Sg) (r : Int32) (σ2 : Sg), k57 v1 v3 σ = some (r, σ2) → Rc none (Ev MT CT d) sg158 (57, [(0, .ref 117), (1, .int v1), (3, .int v3)], [], σ) (fun v s => v = some (.int r) ∧ s = σ2)) (v1 : Int32) (v3 : Int32) (σ : Sg) (r : Int32) (σ2 : Sg) (h : m_box_117_H57 k29 k57 v1 v3 σ = some (r, σ2)) : Rc none (Ev MT CT d) sg158 (57, [(0, .ref 117), (1, .int v1), (3, .int v3)], [], σ) (fun v s => v = some (.int r) ∧ s = σ2) := by
  unfold m_box_117_H57 at h
  refine Rc.blk (c := []) (s2 := (if v3 < 0 then 84 else 61, [(0, .ref 117), (1, .int v1), (3, .int v3)], [], σ)) 11 rfl rfl (trivial) ?_
  by_cases c4 : v3 < 0
  · rw [if_pos c4] at h
    refine Rc.ifp c4 ?_
    exact m_box_117_b84_ok hd hk29 _ _ _ _ _ h
  · rw [if_neg c4] at h
    refine Rc.ifn c4 ?_
    obtain ⟨g1, h⟩ := gd_some h
    refine Rc.blk (c := [_, _]) (s2 := (if ¬ (σ.1 128 v3.toNatClampNeg) = 1 then 84 else 71, [(0, .ref 117), (1, .int v1), (3, .int v3)], [], σ)) 12 rfl rfl (conj_c (rfl) (conj_c (⟨rfl, inB_in g1⟩) (trivial))) ?_
    by_cases c3 : (σ.1 128 v3.toNatClampNeg) = 1
    · rw [if_pos c3] at h
      refine Rc.ifn (fun q => q c3) ?_
      obtain ⟨g2, h⟩ := gd_some h
      refine Rc.blk (c := [_, _]) (s2 := (57, [(3, .int (v3 + (-1))), (0, .ref 117), (1, .int v1)], [], si σ 128 v3.toNatClampNeg (-1))) 13 rfl rfl (conj_c (rfl) (conj_c (⟨rfl, inB_in g2⟩) (trivial))) ?_
      refine Rc.pick [1, 2, 0] (lv2 := [(0, .ref 117), (1, .int v1), (3, .int (v3 + (-1)))]) rfl ?_
      exact hk57 _ _ _ _ _ h
    · rw [if_neg c3] at h
      refine Rc.ifp c3 ?_
      exact m_box_117_b84_ok hd hk29 _ _ _ _ _ h
theorem m_box_117_L57_ok {d : Nat} (hd : 2 ≤ d) {k29 : Int32 → Int32 → Sg → Option (Int32 × Sg)} (hk29 : ∀ (v1 : Int32) (v2 : Int32) (σ : Sg) (r : Int32) (σ2 : Sg), k29 v1 v2 σ = some (r, σ2) → Rc none (Ev MT CT d) sg158 (29, [(0, .ref 117), (1, .int v1), (2, .int v2)], [], σ) (fun v s => v = some (.int r) ∧ s = σ2)) : ∀ (n : Nat) (v1 : Int32) (v3 : Int32) (σ : Sg) (r : Int32) (σ2 : Sg), m_box_117_L57 k29 n v1 v3 σ = some (r, σ2) → Rc none (Ev MT CT d) sg158 (57, [(0, .ref 117), (1, .int v1), (3, .int v3)], [], σ) (fun v s => v = some (.int r) ∧ s = σ2)
  | 0, _, _, _, _, _, h => by cases h
  | n + 1, v1, v3, σ, r, σ2, h => m_box_117_H57_ok hd hk29 (m_box_117_L57_ok hd hk29 n) v1 v3 σ r σ2 h
theorem m_box_117_b46_ok {d : Nat} (hd : 2 ≤ d) {k29 : Int32 → Int32 → Sg → Option (Int32 × Sg)} (hk29 : ∀ (v1 : Int32) (v2 : Int32) (σ : Sg) (r : Int32) (σ2 : Sg), k29 v1 v2 σ = some (r, σ2) → Rc none (Ev MT CT d) sg158 (29, [(0, .ref 117), (1, .int v1), (2, .int v2)], [], σ) (fun v s => v = some (.int r) ∧ s = σ2)) (s0 : Int32) (s1 : Int32) (σ : Sg) (r : Int32) (σ2 : Sg) (h : m_box_117_b46 k29 s0 s1 σ = some (r, σ2)) : Rc none (Ev MT CT d) sg158 (46, [(0, .ref 117)], [.int s1, .int s0], σ) (fun v s => v = some (.int r) ∧ s = σ2) := by
  unfold m_box_117_b46 at h
  refine Rc.blk (c := [_, _]) (s2 := (57, [(3, .int ((σ.1 118 0) - 1)), (1, .int (s0 + s1)), (0, .ref 117)], [], σ)) 10 rfl rfl (conj_c (rfl) (conj_c (⟨rfl, inB_in (by decide)⟩) (trivial))) ?_
  refine Rc.pick [2, 1, 0] (lv2 := [(0, .ref 117), (1, .int (s0 + s1)), (3, .int ((σ.1 118 0) - 1))]) rfl ?_
  exact m_box_117_L57_ok hd hk29 fu _ _ _ _ _ h
theorem m_box_117_H29_ok {d : Nat} (hd : 2 ≤ d) {k29 : Int32 → Int32 → Sg → Option (Int32 × Sg)} (hk29 : ∀ (v1 : Int32) (v2 : Int32) (σ : Sg) (r : Int32) (σ2 : Sg), k29 v1 v2 σ = some (r, σ2) → Rc none (Ev MT CT d) sg158 (29, [(0, .ref 117), (1, .int v1), (2, .int v2)], [], σ) (fun v s => v = some (.int r) ∧ s = σ2)) (v1 : Int32) (v2 : Int32) (σ : Sg) (r : Int32) (σ2 : Sg) (h : m_box_117_H29 k29 v1 v2 σ = some (r, σ2)) : Rc none (Ev MT CT d) sg158 (29, [(0, .ref 117), (1, .int v1), (2, .int v2)], [], σ) (fun v s => v = some (.int r) ∧ s = σ2) := by
  unfold m_box_117_H29 at h
  refine Rc.blk (c := []) (s2 := (if v2 = 0 then 111 else 33, [(0, .ref 117), (1, .int v1), (2, .int v2)], [], σ)) 4 rfl rfl (trivial) ?_
  by_cases c3 : v2 = 0
  · rw [if_pos c3] at h
    refine Rc.ifp c3 ?_
    refine Rc.blk (c := []) (s2 := (112, [(0, .ref 117), (1, .int v1), (2, .int v2)], [.int v1], σ)) 20 rfl rfl (trivial) ?_
    obtain ⟨rfl, rfl⟩ := some_pair h
    exact Rc.ret 21 rfl rfl rfl trivial ⟨rfl, rfl⟩
  · rw [if_neg c3] at h
    refine Rc.ifn c3 ?_
    refine Rc.blk (c := []) (s2 := (35, [(0, .ref 117), (1, .int v1), (2, .int v2)], [.ref 117, .int v1], σ)) 5 rfl rfl (trivial) ?_
    obtain ⟨r1, σ1, hc, h⟩ := bd_some h
    refine Rc.call (Ev.mono d) (v := some (.int r1)) (as := [.ref 117]) (r := [.int v1]) 6 rfl rfl rfl rfl ⟨rfl, Nat.le_of_ble_eq_true rfl⟩ (m_isToldPure_117_ok (by omega) hc) ?_
    show Rc _ _ _ (38, [(0, .ref 117), (1, .int v1), (2, .int v2)], [.int r1, .int v1], σ1) _
    refine Rc.blk (c := []) (s2 := (if r1 = 0 then 45 else 41, [(0, .ref 117), (1, .int v1), (2, .int v2)], [.int v1], σ1)) 7 rfl rfl (trivial) ?_
    by_cases c2 : r1 = 0
    · rw [if_pos c2] at h
      refine Rc.ifp c2 ?_
      refine Rc.blk (c := []) (s2 := (46, [(0, .ref 117), (1, .int v1), (2, .int v2)], [.int 0, .int v1], σ1)) 9 rfl rfl (trivial) ?_
      refine Rc.pick [0] (lv2 := [(0, .ref 117)]) rfl ?_
      exact m_box_117_b46_ok hd hk29 _ _ _ _ _ h
    · rw [if_neg c2] at h
      refine Rc.ifn c2 ?_
      refine Rc.blk (c := []) (s2 := (46, [(0, .ref 117), (1, .int v1), (2, .int v2)], [.int 1, .int v1], σ1)) 8 rfl rfl (trivial) ?_
      refine Rc.pick [0] (lv2 := [(0, .ref 117)]) rfl ?_
      exact m_box_117_b46_ok hd hk29 _ _ _ _ _ h
theorem m_box_117_L29_ok {d : Nat} (hd : 2 ≤ d) : ∀ (n : Nat) (v1 : Int32) (v2 : Int32) (σ : Sg) (r : Int32) (σ2 : Sg), m_box_117_L29 n v1 v2 σ = some (r, σ2) → Rc none (Ev MT CT d) sg158 (29, [(0, .ref 117), (1, .int v1), (2, .int v2)], [], σ) (fun v s => v = some (.int r) ∧ s = σ2)
  | 0, _, _, _, _, _, h => by cases h
  | n + 1, v1, v2, σ, r, σ2, h => m_box_117_H29_ok hd (m_box_117_L29_ok hd n) v1 v2 σ r σ2 h
theorem m_box_117_H2_ok {d : Nat} (hd : 2 ≤ d) {k2 : Int32 → Sg → Option (Int32 × Sg)} (hk2 : ∀ (v1 : Int32) (σ : Sg) (r : Int32) (σ2 : Sg), k2 v1 σ = some (r, σ2) → Rc none (Ev MT CT d) sg158 (2, [(0, .ref 117), (1, .int v1)], [], σ) (fun v s => v = some (.int r) ∧ s = σ2)) (v1 : Int32) (σ : Sg) (r : Int32) (σ2 : Sg) (h : m_box_117_H2 k2 v1 σ = some (r, σ2)) : Rc none (Ev MT CT d) sg158 (2, [(0, .ref 117), (1, .int v1)], [], σ) (fun v s => v = some (.int r) ∧ s = σ2) := by
  unfold m_box_117_H2 at h
  refine Rc.blk (c := [_, _]) (s2 := (if (σ.1 118 0) ≤ v1 then 25 else 12, [(0, .ref 117), (1, .int v1)], [], σ)) 1 rfl rfl (conj_c (rfl) (conj_c (⟨rfl, inB_in (by decide)⟩) (trivial))) ?_
  by_cases c2 : (σ.1 118 0) ≤ v1
  · rw [if_pos c2] at h
    refine Rc.ifp c2 ?_
    refine Rc.blk (c := []) (s2 := (29, [(2, .int 1), (1, .int 0), (0, .ref 117)], [], σ)) 3 rfl rfl (trivial) ?_
    refine Rc.pick [2, 1, 0] (lv2 := [(0, .ref 117), (1, .int 0), (2, .int 1)]) rfl ?_
    exact m_box_117_L29_ok hd fu _ _ _ _ _ h
  · rw [if_neg c2] at h
    refine Rc.ifn c2 ?_
    obtain ⟨g1, h⟩ := gd_some h
    refine Rc.blk (c := [_, _]) (s2 := (2, [(1, .int (v1 + 1)), (0, .ref 117)], [], si σ 128 v1.toNatClampNeg (-1))) 2 rfl rfl (conj_c (rfl) (conj_c (⟨rfl, inB_in g1⟩) (trivial))) ?_
    refine Rc.pick [1, 0] (lv2 := [(0, .ref 117), (1, .int (v1 + 1))]) rfl ?_
    exact hk2 _ _ _ _ h
theorem m_box_117_L2_ok {d : Nat} (hd : 2 ≤ d) : ∀ (n : Nat) (v1 : Int32) (σ : Sg) (r : Int32) (σ2 : Sg), m_box_117_L2 n v1 σ = some (r, σ2) → Rc none (Ev MT CT d) sg158 (2, [(0, .ref 117), (1, .int v1)], [], σ) (fun v s => v = some (.int r) ∧ s = σ2)
  | 0, _, _, _, _, h => by cases h
  | n + 1, v1, σ, r, σ2, h => m_box_117_H2_ok hd (m_box_117_L2_ok hd n) v1 σ r σ2 h
theorem m_box_117_ok {d : Nat} (hd : 3 ≤ d) {σ : Sg} {r : Int32} {σ2 : Sg} (h : m_box_117 σ = some (r, σ2)) : Ev MT CT d 158 [.ref 117] σ (fun v s => v = some (.int r) ∧ s = σ2) := by
  obtain ⟨d, rfl⟩ : ∃ e, d = e + 1 := ⟨d - 1, by omega⟩
  refine ⟨Nat.le_of_ble_eq_true rfl, ?_⟩
  show Rc none (Ev MT CT d) sg158 (0, [(0, .ref 117)], [], σ) _
  unfold m_box_117 at h
  have hd : 2 ≤ d := by omega
  refine Rc.blk (c := []) (s2 := (2, [(1, .int 0), (0, .ref 117)], [], σ)) 0 rfl rfl (trivial) ?_
  refine Rc.pick [1, 0] (lv2 := [(0, .ref 117), (1, .int 0)]) rfl ?_
  exact m_box_117_L2_ok hd fu _ _ _ _ h
theorem m_isLeast_117_b57_ok (d0 : Nat) (rs : Int32 → Int32 → Sg → Option (Int32 × Sg)) (hrs : ∀ (v1 : Int32) (v2 : Int32) (σ : Sg) (r : Int32) (σ2 : Sg), rs v1 v2 σ = some (r, σ2) → Ev MT CT d0 159 [.ref 117, .int v1, .int v2] σ (fun v s => v = some (.int r) ∧ s = σ2)) {d : Nat} (hd : 2 ≤ d) (hd0 : d0 + 0 ≤ d) {k30 : Int32 → Int32 → Int32 → Sg → Option (Int32 × Sg)} (hk30 : ∀ (v1 : Int32) (v2 : Int32) (v3 : Int32) (σ : Sg) (r : Int32) (σ2 : Sg), k30 v1 v2 v3 σ = some (r, σ2) → Rc none (Ev MT CT d) sg159 (30, [(0, .ref 117), (1, .int v1), (2, .int v2), (3, .int v3)], [], σ) (fun v s => v = some (.int r) ∧ s = σ2)) (v1 : Int32) (v2 : Int32) (v3 : Int32) (s1 : Int32) (s2 : Int32) (s3 : Int32) (σ : Sg) (r : Int32) (σ2 : Sg) (h : m_isLeast_117_b57 rs k30 v1 v2 v3 s1 s2 s3 σ = some (r, σ2)) : Rc none (Ev MT CT d) sg159 (57, [(0, .ref 117), (1, .int v1), (2, .int v2), (3, .int v3)], [.int s3, .int s2, .int s1, .ref 117], σ) (fun v s => v = some (.int r) ∧ s = σ2) := by
  unfold m_isLeast_117_b57 at h
  refine Rc.blk (c := []) (s2 := (58, [(0, .ref 117), (1, .int v1), (2, .int v2), (3, .int v3)], [.int (s2 - s3), .int s1, .ref 117], σ)) 13 rfl rfl (trivial) ?_
  obtain ⟨r1, σ1, hc, h⟩ := bd_some h
  refine Rc.call (Ev.mono d) (v := some (.int r1)) (as := [.ref 117, .int s1, .int (s2 - s3)]) (r := []) 14 rfl rfl rfl rfl ⟨rfl, Nat.le_of_ble_eq_true rfl⟩ (Ev.le (by omega) (hrs _ _ _ _ _ hc)) ?_
  show Rc _ _ _ (61, [(0, .ref 117), (1, .int v1), (2, .int v2), (3, .int v3)], [.int r1], σ1) _
  refine Rc.blk (c := []) (s2 := (if r1 = 0 then 66 else 64, [(0, .ref 117), (1, .int v1), (2, .int v2), (3, .int v3)], [], σ1)) 15 rfl rfl (trivial) ?_
  by_cases c2 : r1 = 0
  · rw [if_pos c2] at h
    refine Rc.ifp c2 ?_
    refine Rc.blk (c := []) (s2 := (30, [(3, .int (v3 + 1)), (0, .ref 117), (1, .int v1), (2, .int v2)], [], σ1)) 18 rfl rfl (trivial) ?_
    refine Rc.pick [1, 2, 3, 0] (lv2 := [(0, .ref 117), (1, .int v1), (2, .int v2), (3, .int (v3 + 1))]) rfl ?_
    exact hk30 _ _ _ _ _ _ h
  · rw [if_neg c2] at h
    refine Rc.ifn c2 ?_
    refine Rc.blk (c := []) (s2 := (65, [(0, .ref 117), (1, .int v1), (2, .int v2), (3, .int v3)], [.int 1], σ1)) 16 rfl rfl (trivial) ?_
    obtain ⟨rfl, rfl⟩ := some_pair h
    exact Rc.ret 17 rfl rfl rfl (Or.inr rfl) ⟨rfl, rfl⟩
theorem m_isLeast_117_H30_ok (d0 : Nat) (rs : Int32 → Int32 → Sg → Option (Int32 × Sg)) (hrs : ∀ (v1 : Int32) (v2 : Int32) (σ : Sg) (r : Int32) (σ2 : Sg), rs v1 v2 σ = some (r, σ2) → Ev MT CT d0 159 [.ref 117, .int v1, .int v2] σ (fun v s => v = some (.int r) ∧ s = σ2)) {d : Nat} (hd : 2 ≤ d) (hd0 : d0 + 0 ≤ d) {k30 : Int32 → Int32 → Int32 → Sg → Option (Int32 × Sg)} (hk30 : ∀ (v1 : Int32) (v2 : Int32) (v3 : Int32) (σ : Sg) (r : Int32) (σ2 : Sg), k30 v1 v2 v3 σ = some (r, σ2) → Rc none (Ev MT CT d) sg159 (30, [(0, .ref 117), (1, .int v1), (2, .int v2), (3, .int v3)], [], σ) (fun v s => v = some (.int r) ∧ s = σ2)) (v1 : Int32) (v2 : Int32) (v3 : Int32) (σ : Sg) (r : Int32) (σ2 : Sg) (h : m_isLeast_117_H30 rs k30 v1 v2 v3 σ = some (r, σ2)) : Rc none (Ev MT CT d) sg159 (30, [(0, .ref 117), (1, .int v1), (2, .int v2), (3, .int v3)], [], σ) (fun v s => v = some (.int r) ∧ s = σ2) := by
  unfold m_isLeast_117_H30 at h
  refine Rc.blk (c := []) (s2 := (if v2 < v3 then 72 else 35, [(0, .ref 117), (1, .int v1), (2, .int v2), (3, .int v3)], [], σ)) 9 rfl rfl (trivial) ?_
  by_cases c3 : v2 < v3
  · rw [if_pos c3] at h
    refine Rc.ifp c3 ?_
    refine Rc.blk (c := []) (s2 := (73, [(0, .ref 117), (1, .int v1), (2, .int v2), (3, .int v3)], [.int 0], σ)) 19 rfl rfl (trivial) ?_
    obtain ⟨rfl, rfl⟩ := some_pair h
    exact Rc.ret 20 rfl rfl rfl (Or.inl rfl) ⟨rfl, rfl⟩
  · rw [if_neg c3] at h
    refine Rc.ifn c3 ?_
    obtain ⟨g1, h⟩ := gd_some h
    refine Rc.blk (c := [_, _]) (s2 := (if 0 ≤ v3 then 56 else 51, [(0, .ref 117), (1, .int v1), (2, .int v2), (3, .int v3)], [.int v2, .int (v1 + 1), .ref 117], si σ 128 v1.toNatClampNeg v3)) 10 rfl rfl (conj_c (rfl) (conj_c (⟨rfl, inB_in g1⟩) (trivial))) ?_
    by_cases c2 : 0 ≤ v3
    · rw [if_pos c2] at h
      refine Rc.ifp c2 ?_
      refine Rc.blk (c := []) (s2 := (57, [(0, .ref 117), (1, .int v1), (2, .int v2), (3, .int v3)], [.int v3, .int v2, .int (v1 + 1), .ref 117], si σ 128 v1.toNatClampNeg v3)) 12 rfl rfl (trivial) ?_
      exact m_isLeast_117_b57_ok d0 rs hrs hd hd0 hk30 _ _ _ _ _ _ _ _ _ h
    · rw [if_neg c2] at h
      refine Rc.ifn c2 ?_
      refine Rc.blk (c := []) (s2 := (57, [(0, .ref 117), (1, .int v1), (2, .int v2), (3, .int v3)], [.int (-v3), .int v2, .int (v1 + 1), .ref 117], si σ 128 v1.toNatClampNeg v3)) 11 rfl rfl (trivial) ?_
      exact m_isLeast_117_b57_ok d0 rs hrs hd hd0 hk30 _ _ _ _ _ _ _ _ _ h
theorem m_isLeast_117_L30_ok (d0 : Nat) (rs : Int32 → Int32 → Sg → Option (Int32 × Sg)) (hrs : ∀ (v1 : Int32) (v2 : Int32) (σ : Sg) (r : Int32) (σ2 : Sg), rs v1 v2 σ = some (r, σ2) → Ev MT CT d0 159 [.ref 117, .int v1, .int v2] σ (fun v s => v = some (.int r) ∧ s = σ2)) {d : Nat} (hd : 2 ≤ d) (hd0 : d0 + 0 ≤ d) : ∀ (n : Nat) (v1 : Int32) (v2 : Int32) (v3 : Int32) (σ : Sg) (r : Int32) (σ2 : Sg), m_isLeast_117_L30 rs n v1 v2 v3 σ = some (r, σ2) → Rc none (Ev MT CT d) sg159 (30, [(0, .ref 117), (1, .int v1), (2, .int v2), (3, .int v3)], [], σ) (fun v s => v = some (.int r) ∧ s = σ2)
  | 0, _, _, _, _, _, _, h => by cases h
  | n + 1, v1, v2, v3, σ, r, σ2, h => m_isLeast_117_H30_ok d0 rs hrs hd hd0 (m_isLeast_117_L30_ok d0 rs hrs hd hd0 n) v1 v2 v3 σ r σ2 h
theorem m_isLeast_117_b26_ok (d0 : Nat) (rs : Int32 → Int32 → Sg → Option (Int32 × Sg)) (hrs : ∀ (v1 : Int32) (v2 : Int32) (σ : Sg) (r : Int32) (σ2 : Sg), rs v1 v2 σ = some (r, σ2) → Ev MT CT d0 159 [.ref 117, .int v1, .int v2] σ (fun v s => v = some (.int r) ∧ s = σ2)) {d : Nat} (hd : 2 ≤ d) (hd0 : d0 + 0 ≤ d) (s0 : Int32) (σ : Sg) (r : Int32) (σ2 : Sg) (h : m_isLeast_117_b26 rs s0 σ = some (r, σ2)) : Rc none (Ev MT CT d) sg159 (26, [], [.int s0], σ) (fun v s => v = some (.int r) ∧ s = σ2) := by
  unfold m_isLeast_117_b26 at h
  obtain ⟨g, h⟩ := gd_some h
  obtain ⟨rfl, rfl⟩ := some_pair h
  exact Rc.ret 7 rfl rfl rfl (nbB_ok g) ⟨rfl, rfl⟩
theorem m_isLeast_117_b25_ok (d0 : Nat) (rs : Int32 → Int32 → Sg → Option (Int32 × Sg)) (hrs : ∀ (v1 : Int32) (v2 : Int32) (σ : Sg) (r : Int32) (σ2 : Sg), rs v1 v2 σ = some (r, σ2) → Ev MT CT d0 159 [.ref 117, .int v1, .int v2] σ (fun v s => v = some (.int r) ∧ s = σ2)) {d : Nat} (hd : 2 ≤ d) (hd0 : d0 + 0 ≤ d) (σ : Sg) (r : Int32) (σ2 : Sg) (h : m_isLeast_117_b25 rs σ = some (r, σ2)) : Rc none (Ev MT CT d) sg159 (25, [], [], σ) (fun v s => v = some (.int r) ∧ s = σ2) := by
  unfold m_isLeast_117_b25 at h
  refine Rc.blk (c := []) (s2 := (26, [], [.int 0], σ)) 6 rfl rfl (trivial) ?_
  exact m_isLeast_117_b26_ok d0 rs hrs hd hd0 _ _ _ _ h
theorem m_isLeast_117_H_ok (d0 : Nat) (rs : Int32 → Int32 → Sg → Option (Int32 × Sg)) (hrs : ∀ (v1 : Int32) (v2 : Int32) (σ : Sg) (r : Int32) (σ2 : Sg), rs v1 v2 σ = some (r, σ2) → Ev MT CT d0 159 [.ref 117, .int v1, .int v2] σ (fun v s => v = some (.int r) ∧ s = σ2)) {d : Nat} (hd : 3 ≤ d) (hd0 : d0 + 1 ≤ d) {v1 : Int32} {v2 : Int32} {σ : Sg} {r : Int32} {σ2 : Sg} (h : m_isLeast_117_H rs v1 v2 σ = some (r, σ2)) : Ev MT CT d 159 [.ref 117, .int v1, .int v2] σ (fun v s => v = some (.int r) ∧ s = σ2) := by
  obtain ⟨d, rfl⟩ : ∃ e, d = e + 1 := ⟨d - 1, by omega⟩
  refine ⟨Nat.le_of_ble_eq_true rfl, ?_⟩
  show Rc none (Ev MT CT d) sg159 (0, [(0, .ref 117), (1, .int v1), (2, .int v2)], [], σ) _
  unfold m_isLeast_117_H at h
  have hd : 2 ≤ d := by omega
  have hd0 : d0 + 0 ≤ d := by omega
  refine Rc.blk (c := [_, _]) (s2 := (if ¬ v1 = (σ.1 118 0) then 27 else 10, [(0, .ref 117), (1, .int v1), (2, .int v2)], [], σ)) 0 rfl rfl (conj_c (rfl) (conj_c (⟨rfl, inB_in (by decide)⟩) (trivial))) ?_
  by_cases c4 : v1 = (σ.1 118 0)
  · rw [if_pos c4] at h
    refine Rc.ifn (fun q => q c4) ?_
    refine Rc.blk (c := []) (s2 := (if ¬ v2 = 0 then 25 else 14, [(0, .ref 117), (1, .int v1), (2, .int v2)], [], σ)) 1 rfl rfl (trivial) ?_
    by_cases c3 : v2 = 0
    · rw [if_pos c3] at h
      refine Rc.ifn (fun q => q c3) ?_
      refine Rc.blk (c := []) (s2 := (15, [(0, .ref 117), (1, .int v1), (2, .int v2)], [.ref 117], σ)) 2 rfl rfl (trivial) ?_
      obtain ⟨r1, σ1, hc, h⟩ := bd_some h
      refine Rc.call (Ev.mono d) (v := some (.int r1)) (as := [.ref 117]) (r := []) 3 rfl rfl rfl rfl ⟨rfl, Nat.le_of_ble_eq_true rfl⟩ (m_isToldPure_117_ok (by omega) hc) ?_
      show Rc _ _ _ (18, [(0, .ref 117), (1, .int v1), (2, .int v2)], [.int r1], σ1) _
      refine Rc.blk (c := []) (s2 := (if r1 = 0 then 25 else 21, [(0, .ref 117), (1, .int v1), (2, .int v2)], [], σ1)) 4 rfl rfl (trivial) ?_
      by_cases c2 : r1 = 0
      · rw [if_pos c2] at h
        refine Rc.ifp c2 ?_
        refine Rc.pick [] (lv2 := []) rfl ?_
        exact m_isLeast_117_b25_ok d0 rs hrs hd hd0 _ _ _ h
      · rw [if_neg c2] at h
        refine Rc.ifn c2 ?_
        refine Rc.blk (c := []) (s2 := (26, [(0, .ref 117), (1, .int v1), (2, .int v2)], [.int 1], σ1)) 5 rfl rfl (trivial) ?_
        refine Rc.pick [] (lv2 := []) rfl ?_
        exact m_isLeast_117_b26_ok d0 rs hrs hd hd0 _ _ _ _ h
    · rw [if_neg c3] at h
      refine Rc.ifp c3 ?_
      refine Rc.pick [] (lv2 := []) rfl ?_
      exact m_isLeast_117_b25_ok d0 rs hrs hd hd0 _ _ _ h
  · rw [if_neg c4] at h
    refine Rc.ifp c4 ?_
    refine Rc.blk (c := []) (s2 := (30, [(3, .int (-v2)), (0, .ref 117), (1, .int v1), (2, .int v2)], [], σ)) 8 rfl rfl (trivial) ?_
    refine Rc.pick [1, 2, 3, 0] (lv2 := [(0, .ref 117), (1, .int v1), (2, .int v2), (3, .int (-v2))]) rfl ?_
    exact m_isLeast_117_L30_ok d0 rs hrs hd hd0 fu _ _ _ _ _ _ h
theorem m_isLeast_117_lv : ∀ (n : Nat) (v1 : Int32) (v2 : Int32) (σ : Sg) (r : Int32) (σ2 : Sg), m_isLeast_117 n v1 v2 σ = some (r, σ2) → Ev MT CT (3 + 1 * n) 159 [.ref 117, .int v1, .int v2] σ (fun v s => v = some (.int r) ∧ s = σ2)
  | 0, _, _, _, _, _, h => by cases h
  | n + 1, v1, v2, σ, r, σ2, h => m_isLeast_117_H_ok (3 + 1 * n) (m_isLeast_117 n) (m_isLeast_117_lv n) (by omega) (by omega) h
theorem m_isLeast_117_top {d : Nat} (hd : 15 ≤ d) {v1 : Int32} {v2 : Int32} {σ : Sg} {r : Int32} {σ2 : Sg} (h : m_isLeast_117 12 v1 v2 σ = some (r, σ2)) : Ev MT CT d 159 [.ref 117, .int v1, .int v2] σ (fun v s => v = some (.int r) ∧ s = σ2) := Ev.le (by omega) (m_isLeast_117_lv 12 v1 v2 σ r σ2 h)
theorem m_least_117_b50_ok {d : Nat} (hd : 15 ≤ d) (s0 : Int32) (σ : Sg) (r : Int32) (σ2 : Sg) (h : m_least_117_b50 s0 σ = some (r, σ2)) : Rc none (Ev MT CT d) sg160 (50, [], [.int s0], σ) (fun v s => v = some (.int r) ∧ s = σ2) := by
  unfold m_least_117_b50 at h
  obtain ⟨rfl, rfl⟩ := some_pair h
  exact Rc.ret 15 rfl rfl rfl trivial ⟨rfl, rfl⟩
theorem m_least_117_H21_ok {d : Nat} (hd : 15 ≤ d) {k21 : Int32 → Int32 → Sg → Option (Int32 × Sg)} (hk21 : ∀ (v1 : Int32) (v2 : Int32) (σ : Sg) (r : Int32) (σ2 : Sg), k21 v1 v2 σ = some (r, σ2) → Rc none (Ev MT CT d) sg160 (21, [(0, .ref 117), (1, .int v1), (2, .int v2)], [], σ) (fun v s => v = some (.int r) ∧ s = σ2)) (v1 : Int32) (v2 : Int32) (σ : Sg) (r : Int32) (σ2 : Sg) (h : m_least_117_H21 k21 v1 v2 σ = some (r, σ2)) : Rc none (Ev MT CT d) sg160 (21, [(0, .ref 117), (1, .int v1), (2, .int v2)], [], σ) (fun v s => v = some (.int r) ∧ s = σ2) := by
  unfold m_least_117_H21 at h
  refine Rc.blk (c := []) (s2 := (if 6 < v2 then 57 else 27, [(0, .ref 117), (1, .int v1), (2, .int v2)], [], σ)) 8 rfl rfl (trivial) ?_
  by_cases c5 : 6 < v2
  · rw [if_pos c5] at h
    refine Rc.ifp c5 ?_
    refine Rc.blk (c := []) (s2 := (58, [(0, .ref 117), (1, .int v1), (2, .int v2)], [.int 0], σ)) 17 rfl rfl (trivial) ?_
    obtain ⟨rfl, rfl⟩ := some_pair h
    exact Rc.ret 18 rfl rfl rfl trivial ⟨rfl, rfl⟩
  · rw [if_neg c5] at h
    refine Rc.ifn c5 ?_
    refine Rc.blk (c := []) (s2 := (30, [(0, .ref 117), (1, .int v1), (2, .int v2)], [.int v2, .int 0, .ref 117], σ)) 9 rfl rfl (trivial) ?_
    obtain ⟨r1, σ1, hc, h⟩ := bd_some h
    refine Rc.call (Ev.mono d) (v := some (.int r1)) (as := [.ref 117, .int 0, .int v2]) (r := []) 10 rfl rfl rfl rfl ⟨rfl, Nat.le_of_ble_eq_true rfl⟩ (m_isLeast_117_top (by omega) hc) ?_
    show Rc _ _ _ (33, [(0, .ref 117), (1, .int v1), (2, .int v2)], [.int r1], σ1) _
    refine Rc.blk (c := []) (s2 := (if r1 = 0 then 51 else 36, [(0, .ref 117), (1, .int v1), (2, .int v2)], [], σ1)) 11 rfl rfl (trivial) ?_
    by_cases c4 : r1 = 0
    · rw [if_pos c4] at h
      refine Rc.ifp c4 ?_
      refine Rc.blk (c := []) (s2 := (21, [(2, .int (v2 + 1)), (0, .ref 117), (1, .int v1)], [], σ1)) 16 rfl rfl (trivial) ?_
      refine Rc.pick [1, 2, 0] (lv2 := [(0, .ref 117), (1, .int v1), (2, .int (v2 + 1))]) rfl ?_
      exact hk21 _ _ _ _ _ h
    · rw [if_neg c4] at h
      refine Rc.ifn c4 ?_
      refine Rc.blk (c := []) (s2 := (if 0 ≤ v1 then 44 else 40, [(0, .ref 117), (1, .int v1), (2, .int v2)], [], σ1)) 12 rfl rfl (trivial) ?_
      by_cases c3 : 0 ≤ v1
      · rw [if_pos c3] at h
        refine Rc.ifp c3 ?_
        obtain ⟨g2, h⟩ := gd_some h
        refine Rc.blk (c := [_, _]) (s2 := (50, [(0, .ref 117), (1, .int v1), (2, .int v2)], [.int (σ1.1 128 v1.toNatClampNeg)], σ1)) 14 rfl rfl (conj_c (rfl) (conj_c (⟨rfl, inB_in g2⟩) (trivial))) ?_
        refine Rc.pick [] (lv2 := []) rfl ?_
        exact m_least_117_b50_ok hd _ _ _ _ h
      · rw [if_neg c3] at h
        refine Rc.ifn c3 ?_
        refine Rc.blk (c := []) (s2 := (50, [(0, .ref 117), (1, .int v1), (2, .int v2)], [.int v2], σ1)) 13 rfl rfl (trivial) ?_
        refine Rc.pick [] (lv2 := []) rfl ?_
        exact m_least_117_b50_ok hd _ _ _ _ h
theorem m_least_117_L21_ok {d : Nat} (hd : 15 ≤ d) : ∀ (n : Nat) (v1 : Int32) (v2 : Int32) (σ : Sg) (r : Int32) (σ2 : Sg), m_least_117_L21 n v1 v2 σ = some (r, σ2) → Rc none (Ev MT CT d) sg160 (21, [(0, .ref 117), (1, .int v1), (2, .int v2)], [], σ) (fun v s => v = some (.int r) ∧ s = σ2)
  | 0, _, _, _, _, _, h => by cases h
  | n + 1, v1, v2, σ, r, σ2, h => m_least_117_H21_ok hd (m_least_117_L21_ok hd n) v1 v2 σ r σ2 h
theorem m_least_117_b19_ok {d : Nat} (hd : 15 ≤ d) (v1 : Int32) (σ : Sg) (r : Int32) (σ2 : Sg) (h : m_least_117_b19 v1 σ = some (r, σ2)) : Rc none (Ev MT CT d) sg160 (19, [(0, .ref 117), (1, .int v1)], [], σ) (fun v s => v = some (.int r) ∧ s = σ2) := by
  unfold m_least_117_b19 at h
  refine Rc.blk (c := []) (s2 := (21, [(2, .int 1), (0, .ref 117), (1, .int v1)], [], σ)) 7 rfl rfl (trivial) ?_
  refine Rc.pick [1, 2, 0] (lv2 := [(0, .ref 117), (1, .int v1), (2, .int 1)]) rfl ?_
  exact m_least_117_L21_ok hd fu _ _ _ _ _ h
theorem m_least_117_ok {d : Nat} (hd : 16 ≤ d) {v1 : Int32} {σ : Sg} {r : Int32} {σ2 : Sg} (h : m_least_117 v1 σ = some (r, σ2)) : Ev MT CT d 160 [.ref 117, .int v1] σ (fun v s => v = some (.int r) ∧ s = σ2) := by
  obtain ⟨d, rfl⟩ : ∃ e, d = e + 1 := ⟨d - 1, by omega⟩
  refine ⟨Nat.le_of_ble_eq_true rfl, ?_⟩
  show Rc none (Ev MT CT d) sg160 (0, [(0, .ref 117), (1, .int v1)], [], σ) _
  unfold m_least_117 at h
  have hd : 15 ≤ d := by omega
  refine Rc.blk (c := []) (s2 := (if v1 = (-1) then 19 else 5, [(0, .ref 117), (1, .int v1)], [], σ)) 0 rfl rfl (trivial) ?_
  by_cases c4 : v1 = (-1)
  · rw [if_pos c4] at h
    refine Rc.ifp c4 ?_
    exact m_least_117_b19_ok hd _ _ _ _ h
  · rw [if_neg c4] at h
    refine Rc.ifn c4 ?_
    refine Rc.blk (c := []) (s2 := (7, [(0, .ref 117), (1, .int v1)], [.int v1, .ref 117], σ)) 1 rfl rfl (trivial) ?_
    obtain ⟨r1, σ1, hc, h⟩ := bd_some h
    refine Rc.call (Ev.mono d) (v := some (.int r1)) (as := [.ref 117, .int v1]) (r := []) 2 rfl rfl rfl rfl ⟨rfl, Nat.le_of_ble_eq_true rfl⟩ (m_isOne_117_ok (by omega) hc) ?_
    show Rc _ _ _ (10, [(0, .ref 117), (1, .int v1)], [.int r1], σ1) _
    refine Rc.blk (c := []) (s2 := (if ¬ r1 = 0 then 19 else 13, [(0, .ref 117), (1, .int v1)], [], σ1)) 3 rfl rfl (trivial) ?_
    by_cases c3 : r1 = 0
    · rw [if_pos c3] at h
      refine Rc.ifn (fun q => q c3) ?_
      refine Rc.blk (c := []) (s2 := (15, [(0, .ref 117), (1, .int v1)], [.int 1, .ref 117], σ1)) 4 rfl rfl (trivial) ?_
      obtain ⟨r2, σ2, hc, h⟩ := bd_some h
      refine Rc.call (Ev.mono d) (v := some (.int r2)) (as := [.ref 117, .int 1]) (r := []) 5 rfl rfl rfl rfl ⟨rfl, Nat.le_of_ble_eq_true rfl⟩ (m_refuseFar_117_ok (by omega) hc) ?_
      show Rc _ _ _ (18, [(0, .ref 117), (1, .int v1)], [.int r2], σ2) _
      obtain ⟨rfl, rfl⟩ := some_pair h
      exact Rc.ret 6 rfl rfl rfl trivial ⟨rfl, rfl⟩
    · rw [if_neg c3] at h
      refine Rc.ifp c3 ?_
      exact m_least_117_b19_ok hd _ _ _ _ h
theorem m_isFree_117_b32_ok {d : Nat} (hd : 2 ≤ d) (s0 : Int32) (σ : Sg) (r : Int32) (σ2 : Sg) (h : m_isFree_117_b32 s0 σ = some (r, σ2)) : Rc none (Ev MT CT d) sg145 (32, [], [.int s0], σ) (fun v s => v = some (.int r) ∧ s = σ2) := by
  unfold m_isFree_117_b32 at h
  obtain ⟨g, h⟩ := gd_some h
  obtain ⟨rfl, rfl⟩ := some_pair h
  exact Rc.ret 11 rfl rfl rfl (nbB_ok g) ⟨rfl, rfl⟩
theorem m_isFree_117_b31_ok {d : Nat} (hd : 2 ≤ d) (σ : Sg) (r : Int32) (σ2 : Sg) (h : m_isFree_117_b31 σ = some (r, σ2)) : Rc none (Ev MT CT d) sg145 (31, [], [], σ) (fun v s => v = some (.int r) ∧ s = σ2) := by
  unfold m_isFree_117_b31 at h
  refine Rc.blk (c := []) (s2 := (32, [], [.int 0], σ)) 10 rfl rfl (trivial) ?_
  exact m_isFree_117_b32_ok hd _ _ _ _ h
theorem m_isFree_117_ok {d : Nat} (hd : 3 ≤ d) {v1 : Int32} {σ : Sg} {r : Int32} {σ2 : Sg} (h : m_isFree_117 v1 σ = some (r, σ2)) : Ev MT CT d 145 [.ref 117, .int v1] σ (fun v s => v = some (.int r) ∧ s = σ2) := by
  obtain ⟨d, rfl⟩ : ∃ e, d = e + 1 := ⟨d - 1, by omega⟩
  refine ⟨Nat.le_of_ble_eq_true rfl, ?_⟩
  show Rc none (Ev MT CT d) sg145 (0, [(0, .ref 117), (1, .int v1)], [], σ) _
  unfold m_isFree_117 at h
  have hd : 2 ≤ d := by omega
  refine Rc.blk (c := []) (s2 := (1, [(0, .ref 117), (1, .int v1)], [.int v1], σ)) 0 rfl rfl (trivial) ?_
  obtain ⟨r1, σ1, hc, h⟩ := bd_some h
  refine Rc.call (Ev.mono d) (v := some (.int r1)) (as := [.int v1]) (r := []) 1 rfl rfl rfl rfl (Nat.le_of_ble_eq_true rfl) (m_bits_s_ok (by omega) hc) ?_
  show Rc _ _ _ (4, [(0, .ref 117), (1, .int v1)], [.int r1], σ1) _
  refine Rc.blk (c := []) (s2 := (if 5 < r1 then 31 else 8, [(0, .ref 117), (1, .int v1)], [], σ1)) 2 rfl rfl (trivial) ?_
  by_cases c6 : 5 < r1
  · rw [if_pos c6] at h
    refine Rc.ifp c6 ?_
    refine Rc.pick [] (lv2 := []) rfl ?_
    exact m_isFree_117_b31_ok hd _ _ _ h
  · rw [if_neg c6] at h
    refine Rc.ifn c6 ?_
    refine Rc.blk (c := []) (s2 := (12, [(0, .ref 117), (1, .int v1)], [.int (-1), .int v1, .ref 117, .ref 117], σ1)) 3 rfl rfl (trivial) ?_
    obtain ⟨r2, σ2, hc, h⟩ := bd_some h
    refine Rc.call (Ev.mono d) (v := some (.int r2)) (as := [.ref 117, .int v1, .int (-1)]) (r := [.ref 117]) 4 rfl rfl rfl rfl ⟨rfl, Nat.le_of_ble_eq_true rfl⟩ (m_lays2_117_ok (by omega) hc) ?_
    show Rc _ _ _ (15, [(0, .ref 117), (1, .int v1)], [.int r2, .ref 117], σ2) _
    refine Rc.blk (c := []) (s2 := (16, [(0, .ref 117), (1, .int v1)], [.int v1, .int r2, .ref 117], σ2)) 5 rfl rfl (trivial) ?_
    obtain ⟨r3, σ3, hc, h⟩ := bd_some h
    refine Rc.call (Ev.mono d) (v := some (.int r3)) (as := [.int v1]) (r := [.int r2, .ref 117]) 6 rfl rfl rfl rfl (Nat.le_of_ble_eq_true rfl) (m_bits_s_ok (by omega) hc) ?_
    show Rc _ _ _ (19, [(0, .ref 117), (1, .int v1)], [.int r3, .int r2, .ref 117], σ3) _
    obtain ⟨r4, σ4, hc, h⟩ := bd_some h
    refine Rc.call (Ev.mono d) (v := some (.long r4)) (as := [.ref 117, .int r2, .int r3]) (r := []) 7 rfl rfl rfl rfl ⟨rfl, Nat.le_of_ble_eq_true rfl⟩ (m_clears_117_ok (by omega) hc) ?_
    show Rc _ _ _ (22, [(0, .ref 117), (1, .int v1)], [.long r4], σ4) _
    refine Rc.blk (c := []) (s2 := (if (lg_cmp r4 0) = 0 then 31 else 27, [(0, .ref 117), (1, .int v1)], [], σ4)) 8 rfl rfl (trivial) ?_
    by_cases c5 : (lg_cmp r4 0) = 0
    · rw [if_pos c5] at h
      refine Rc.ifp c5 ?_
      refine Rc.pick [] (lv2 := []) rfl ?_
      exact m_isFree_117_b31_ok hd _ _ _ h
    · rw [if_neg c5] at h
      refine Rc.ifn c5 ?_
      refine Rc.blk (c := []) (s2 := (32, [(0, .ref 117), (1, .int v1)], [.int 1], σ4)) 9 rfl rfl (trivial) ?_
      refine Rc.pick [] (lv2 := []) rfl ?_
      exact m_isFree_117_b32_ok hd _ _ _ _ h
theorem m_isChosen_117_b27_ok {d : Nat} (hd : 4 ≤ d) (s0 : Int32) (σ : Sg) (r : Int32) (σ2 : Sg) (h : m_isChosen_117_b27 s0 σ = some (r, σ2)) : Rc none (Ev MT CT d) sg161 (27, [], [.int s0], σ) (fun v s => v = some (.int r) ∧ s = σ2) := by
  unfold m_isChosen_117_b27 at h
  obtain ⟨g, h⟩ := gd_some h
  obtain ⟨rfl, rfl⟩ := some_pair h
  exact Rc.ret 11 rfl rfl rfl (nbB_ok g) ⟨rfl, rfl⟩
theorem m_isChosen_117_b26_ok {d : Nat} (hd : 4 ≤ d) (σ : Sg) (r : Int32) (σ2 : Sg) (h : m_isChosen_117_b26 σ = some (r, σ2)) : Rc none (Ev MT CT d) sg161 (26, [], [], σ) (fun v s => v = some (.int r) ∧ s = σ2) := by
  unfold m_isChosen_117_b26 at h
  refine Rc.blk (c := []) (s2 := (27, [], [.int 0], σ)) 10 rfl rfl (trivial) ?_
  exact m_isChosen_117_b27_ok hd _ _ _ _ h
theorem m_isChosen_117_ok {d : Nat} (hd : 5 ≤ d) {v1 : Int32} {σ : Sg} {r : Int32} {σ2 : Sg} (h : m_isChosen_117 v1 σ = some (r, σ2)) : Ev MT CT d 161 [.ref 117, .int v1] σ (fun v s => v = some (.int r) ∧ s = σ2) := by
  obtain ⟨d, rfl⟩ : ∃ e, d = e + 1 := ⟨d - 1, by omega⟩
  refine ⟨Nat.le_of_ble_eq_true rfl, ?_⟩
  show Rc none (Ev MT CT d) sg161 (0, [(0, .ref 117), (1, .int v1)], [], σ) _
  unfold m_isChosen_117 at h
  have hd : 4 ≤ d := by omega
  refine Rc.blk (c := []) (s2 := (1, [(0, .ref 117), (1, .int v1)], [.int v1], σ)) 0 rfl rfl (trivial) ?_
  obtain ⟨r1, σ1, hc, h⟩ := bd_some h
  refine Rc.call (Ev.mono d) (v := some (.int r1)) (as := [.int v1]) (r := []) 1 rfl rfl rfl rfl (Nat.le_of_ble_eq_true rfl) (m_bits_s_ok (by omega) hc) ?_
  show Rc _ _ _ (4, [(0, .ref 117), (1, .int v1)], [.int r1], σ1) _
  refine Rc.blk (c := []) (s2 := (5, [(0, .ref 117), (1, .int v1)], [.ref 117, .int r1], σ1)) 2 rfl rfl (trivial) ?_
  obtain ⟨r2, σ2, hc, h⟩ := bd_some h
  refine Rc.call (Ev.mono d) (v := some (.int r2)) (as := [.ref 117]) (r := [.int r1]) 3 rfl rfl rfl rfl ⟨rfl, Nat.le_of_ble_eq_true rfl⟩ (m_firm_117_ok (by omega) hc) ?_
  show Rc _ _ _ (8, [(0, .ref 117), (1, .int v1)], [.int r2, .int r1], σ2) _
  obtain ⟨r3, σ3, hc, h⟩ := bd_some h
  refine Rc.call (Ev.mono d) (v := some (.int r3)) (as := [.int r2]) (r := [.int r1]) 4 rfl rfl rfl rfl (Nat.le_of_ble_eq_true rfl) (m_bits_s_ok (by omega) hc) ?_
  show Rc _ _ _ (11, [(0, .ref 117), (1, .int v1)], [.int r3, .int r1], σ3) _
  refine Rc.blk (c := []) (s2 := (if ¬ r1 = r3 then 26 else 14, [(0, .ref 117), (1, .int v1)], [], σ3)) 5 rfl rfl (trivial) ?_
  by_cases c6 : r1 = r3
  · rw [if_pos c6] at h
    refine Rc.ifn (fun q => q c6) ?_
    refine Rc.blk (c := []) (s2 := (16, [(0, .ref 117), (1, .int v1)], [.int v1, .ref 117], σ3)) 6 rfl rfl (trivial) ?_
    obtain ⟨r4, σ4, hc, h⟩ := bd_some h
    refine Rc.call (Ev.mono d) (v := some (.int r4)) (as := [.ref 117, .int v1]) (r := []) 7 rfl rfl rfl rfl ⟨rfl, Nat.le_of_ble_eq_true rfl⟩ (m_isFree_117_ok (by omega) hc) ?_
    show Rc _ _ _ (19, [(0, .ref 117), (1, .int v1)], [.int r4], σ4) _
    refine Rc.blk (c := []) (s2 := (if r4 = 0 then 26 else 22, [(0, .ref 117), (1, .int v1)], [], σ4)) 8 rfl rfl (trivial) ?_
    by_cases c5 : r4 = 0
    · rw [if_pos c5] at h
      refine Rc.ifp c5 ?_
      refine Rc.pick [] (lv2 := []) rfl ?_
      exact m_isChosen_117_b26_ok hd _ _ _ h
    · rw [if_neg c5] at h
      refine Rc.ifn c5 ?_
      refine Rc.blk (c := []) (s2 := (27, [(0, .ref 117), (1, .int v1)], [.int 1], σ4)) 9 rfl rfl (trivial) ?_
      refine Rc.pick [] (lv2 := []) rfl ?_
      exact m_isChosen_117_b27_ok hd _ _ _ _ h
  · rw [if_neg c6] at h
    refine Rc.ifp c6 ?_
    refine Rc.pick [] (lv2 := []) rfl ?_
    exact m_isChosen_117_b26_ok hd _ _ _ h
theorem m_isSet_117_ok {d : Nat} (hd : 2 ≤ d) {v1 : Int32} {σ : Sg} {r : Int32} {σ2 : Sg} (h : m_isSet_117 v1 σ = some (r, σ2)) : Ev MT CT d 128 [.ref 117, .int v1] σ (fun v s => v = some (.int r) ∧ s = σ2) := by
  obtain ⟨d, rfl⟩ : ∃ e, d = e + 1 := ⟨d - 1, by omega⟩
  refine ⟨Nat.le_of_ble_eq_true rfl, ?_⟩
  show Rc none (Ev MT CT d) sg128 (0, [(0, .ref 117), (1, .int v1)], [], σ) _
  unfold m_isSet_117 at h
  have hd : 1 ≤ d := by omega
  refine Rc.blk (c := [_, _]) (s2 := (14, [(0, .ref 117), (1, .int v1)], [.long ((((1 : Int32) <<< ((σ.1 118 0) &&& 31)) - 1).toInt64), .long 0, .long v1.toInt64], σ)) 0 rfl rfl (conj_c (rfl) (conj_c (⟨rfl, inB_in (by decide)⟩) (trivial))) ?_
  obtain ⟨r1, σ1, hc, h⟩ := bd_some h
  refine Rc.call (Ev.mono d) (v := some (.int r1)) (as := [.long v1.toInt64, .long 0, .long ((((1 : Int32) <<< ((σ.1 118 0) &&& 31)) - 1).toInt64)]) (r := []) 1 rfl rfl rfl rfl (Nat.le_of_ble_eq_true rfl) (m_isIn_s_ok (by omega) hc) ?_
  show Rc _ _ _ (17, [(0, .ref 117), (1, .int v1)], [.int r1], σ1) _
  obtain ⟨g, h⟩ := gd_some h
  obtain ⟨rfl, rfl⟩ := some_pair h
  exact Rc.ret 2 rfl rfl rfl (nbB_ok g) ⟨rfl, rfl⟩
theorem m_may_117_b27_ok {d : Nat} (hd : 5 ≤ d) (s0 : Int32) (σ : Sg) (r : Int32) (σ2 : Sg) (h : m_may_117_b27 s0 σ = some (r, σ2)) : Rc none (Ev MT CT d) sg162 (27, [], [.int s0], σ) (fun v s => v = some (.int r) ∧ s = σ2) := by
  unfold m_may_117_b27 at h
  obtain ⟨rfl, rfl⟩ := some_pair h
  exact Rc.ret 11 rfl rfl rfl trivial ⟨rfl, rfl⟩
theorem m_may_117_ok {d : Nat} (hd : 6 ≤ d) {v1 : Int32} {σ : Sg} {r : Int32} {σ2 : Sg} (h : m_may_117 v1 σ = some (r, σ2)) : Ev MT CT d 162 [.ref 117, .int v1] σ (fun v s => v = some (.int r) ∧ s = σ2) := by
  obtain ⟨d, rfl⟩ : ∃ e, d = e + 1 := ⟨d - 1, by omega⟩
  refine ⟨Nat.le_of_ble_eq_true rfl, ?_⟩
  show Rc none (Ev MT CT d) sg162 (0, [(0, .ref 117), (1, .int v1)], [], σ) _
  unfold m_may_117 at h
  have hd : 5 ≤ d := by omega
  refine Rc.blk (c := []) (s2 := (2, [(0, .ref 117), (1, .int v1)], [.int v1, .ref 117], σ)) 0 rfl rfl (trivial) ?_
  obtain ⟨r1, σ1, hc, h⟩ := bd_some h
  refine Rc.call (Ev.mono d) (v := some (.int r1)) (as := [.ref 117, .int v1]) (r := []) 1 rfl rfl rfl rfl ⟨rfl, Nat.le_of_ble_eq_true rfl⟩ (m_isSet_117_ok (by omega) hc) ?_
  show Rc _ _ _ (5, [(0, .ref 117), (1, .int v1)], [.int r1], σ1) _
  refine Rc.blk (c := []) (s2 := (if ¬ r1 = 0 then 14 else 8, [(0, .ref 117), (1, .int v1)], [], σ1)) 2 rfl rfl (trivial) ?_
  by_cases c5 : r1 = 0
  · rw [if_pos c5] at h
    refine Rc.ifn (fun q => q c5) ?_
    refine Rc.blk (c := []) (s2 := (10, [(0, .ref 117), (1, .int v1)], [.int 1, .ref 117], σ1)) 3 rfl rfl (trivial) ?_
    obtain ⟨r4, σ4, hc, h⟩ := bd_some h
    refine Rc.call (Ev.mono d) (v := some (.int r4)) (as := [.ref 117, .int 1]) (r := []) 4 rfl rfl rfl rfl ⟨rfl, Nat.le_of_ble_eq_true rfl⟩ (m_refuse_117_ok (by omega) hc) ?_
    show Rc _ _ _ (13, [(0, .ref 117), (1, .int v1)], [.int r4], σ4) _
    obtain ⟨rfl, rfl⟩ := some_pair h
    exact Rc.ret 5 rfl rfl rfl trivial ⟨rfl, rfl⟩
  · rw [if_neg c5] at h
    refine Rc.ifp c5 ?_
    refine Rc.blk (c := []) (s2 := (16, [(0, .ref 117), (1, .int v1)], [.int v1, .ref 117], σ1)) 6 rfl rfl (trivial) ?_
    obtain ⟨r2, σ2, hc, h⟩ := bd_some h
    refine Rc.call (Ev.mono d) (v := some (.int r2)) (as := [.ref 117, .int v1]) (r := []) 7 rfl rfl rfl rfl ⟨rfl, Nat.le_of_ble_eq_true rfl⟩ (m_isChosen_117_ok (by omega) hc) ?_
    show Rc _ _ _ (19, [(0, .ref 117), (1, .int v1)], [.int r2], σ2) _
    refine Rc.blk (c := []) (s2 := (if r2 = 0 then 26 else 22, [(0, .ref 117), (1, .int v1)], [], σ2)) 8 rfl rfl (trivial) ?_
    by_cases c3 : r2 = 0
    · rw [if_pos c3] at h
      refine Rc.ifp c3 ?_
      refine Rc.blk (c := []) (s2 := (27, [(0, .ref 117), (1, .int v1)], [.int 0], σ2)) 10 rfl rfl (trivial) ?_
      refine Rc.pick [] (lv2 := []) rfl ?_
      exact m_may_117_b27_ok hd _ _ _ _ h
    · rw [if_neg c3] at h
      refine Rc.ifn c3 ?_
      refine Rc.blk (c := []) (s2 := (27, [(0, .ref 117), (1, .int v1)], [.int 1], σ2)) 9 rfl rfl (trivial) ?_
      refine Rc.pick [] (lv2 := []) rfl ?_
      exact m_may_117_b27_ok hd _ _ _ _ h
theorem m_rest_117_b32_ok {d : Nat} (hd : 5 ≤ d) (σ : Sg) (r : Int32) (σ2 : Sg) (h : m_rest_117_b32 σ = some (r, σ2)) : Rc none (Ev MT CT d) sg163 (32, [(0, .ref 117)], [], σ) (fun v s => v = some (.int r) ∧ s = σ2) := by
  unfold m_rest_117_b32 at h
  refine Rc.blk (c := []) (s2 := (34, [(0, .ref 117)], [.int 1, .ref 117], σ)) 12 rfl rfl (trivial) ?_
  obtain ⟨r1, σ1, hc, h⟩ := bd_some h
  refine Rc.call (Ev.mono d) (v := some (.int r1)) (as := [.ref 117, .int 1]) (r := []) 13 rfl rfl rfl rfl ⟨rfl, Nat.le_of_ble_eq_true rfl⟩ (m_refuseFar_117_ok (by omega) hc) ?_
  show Rc _ _ _ (37, [(0, .ref 117)], [.int r1], σ1) _
  obtain ⟨rfl, rfl⟩ := some_pair h
  exact Rc.ret 14 rfl rfl rfl trivial ⟨rfl, rfl⟩
theorem m_rest_117_ok {d : Nat} (hd : 6 ≤ d) {v1 : Int32} {v2 : Int32} {v3 : Int32} {σ : Sg} {r : Int32} {σ2 : Sg} (h : m_rest_117 v1 v2 v3 σ = some (r, σ2)) : Ev MT CT d 163 [.ref 117, .int v1, .int v2, .int v3] σ (fun v s => v = some (.int r) ∧ s = σ2) := by
  obtain ⟨d, rfl⟩ : ∃ e, d = e + 1 := ⟨d - 1, by omega⟩
  refine ⟨Nat.le_of_ble_eq_true rfl, ?_⟩
  show Rc none (Ev MT CT d) sg163 (0, [(0, .ref 117), (1, .int v1), (2, .int v2), (3, .int v3)], [], σ) _
  unfold m_rest_117 at h
  have hd : 5 ≤ d := by omega
  refine Rc.blk (c := []) (s2 := (2, [(0, .ref 117), (1, .int v1), (2, .int v2), (3, .int v3)], [.int v1, .ref 117], σ)) 0 rfl rfl (trivial) ?_
  obtain ⟨r1, σ1, hc, h⟩ := bd_some h
  refine Rc.call (Ev.mono d) (v := some (.int r1)) (as := [.ref 117, .int v1]) (r := []) 1 rfl rfl rfl rfl ⟨rfl, Nat.le_of_ble_eq_true rfl⟩ (m_isSet_117_ok (by omega) hc) ?_
  show Rc _ _ _ (5, [(0, .ref 117), (1, .int v1), (2, .int v2), (3, .int v3)], [.int r1], σ1) _
  refine Rc.blk (c := []) (s2 := (if r1 = 0 then 32 else 8, [(0, .ref 117), (1, .int v1), (2, .int v2), (3, .int v3)], [], σ1)) 2 rfl rfl (trivial) ?_
  by_cases c13 : r1 = 0
  · rw [if_pos c13] at h
    refine Rc.ifp c13 ?_
    refine Rc.pick [0] (lv2 := [(0, .ref 117)]) rfl ?_
    exact m_rest_117_b32_ok hd _ _ _ h
  · rw [if_neg c13] at h
    refine Rc.ifn c13 ?_
    refine Rc.blk (c := []) (s2 := (10, [(0, .ref 117), (1, .int v1), (2, .int v2), (3, .int v3)], [.int v2, .ref 117], σ1)) 3 rfl rfl (trivial) ?_
    obtain ⟨r2, σ2, hc, h⟩ := bd_some h
    refine Rc.call (Ev.mono d) (v := some (.int r2)) (as := [.ref 117, .int v2]) (r := []) 4 rfl rfl rfl rfl ⟨rfl, Nat.le_of_ble_eq_true rfl⟩ (m_isOne_117_ok (by omega) hc) ?_
    show Rc _ _ _ (13, [(0, .ref 117), (1, .int v1), (2, .int v2), (3, .int v3)], [.int r2], σ2) _
    refine Rc.blk (c := []) (s2 := (if r2 = 0 then 32 else 16, [(0, .ref 117), (1, .int v1), (2, .int v2), (3, .int v3)], [], σ2)) 5 rfl rfl (trivial) ?_
    by_cases c12 : r2 = 0
    · rw [if_pos c12] at h
      refine Rc.ifp c12 ?_
      refine Rc.pick [0] (lv2 := [(0, .ref 117)]) rfl ?_
      exact m_rest_117_b32_ok hd _ _ _ h
    · rw [if_neg c12] at h
      refine Rc.ifn c12 ?_
      refine Rc.blk (c := []) (s2 := (18, [(0, .ref 117), (1, .int v1), (2, .int v2), (3, .int v3)], [.int v2, .int v1], σ2)) 6 rfl rfl (trivial) ?_
      obtain ⟨r3, σ3, hc, h⟩ := bd_some h
      refine Rc.call (Ev.mono d) (v := some (.int r3)) (as := [.int v1, .int v2]) (r := []) 7 rfl rfl rfl rfl (Nat.le_of_ble_eq_true rfl) (m_has_s_ok (by omega) hc) ?_
      show Rc _ _ _ (21, [(0, .ref 117), (1, .int v1), (2, .int v2), (3, .int v3)], [.int r3], σ3) _
      refine Rc.blk (c := []) (s2 := (if ¬ r3 = 0 then 32 else 24, [(0, .ref 117), (1, .int v1), (2, .int v2), (3, .int v3)], [], σ3)) 8 rfl rfl (trivial) ?_
      by_cases c11 : r3 = 0
      · rw [if_pos c11] at h
        refine Rc.ifn (fun q => q c11) ?_
        refine Rc.blk (c := []) (s2 := (26, [(0, .ref 117), (1, .int v1), (2, .int v2), (3, .int v3)], [.int v3, .ref 117], σ3)) 9 rfl rfl (trivial) ?_
        obtain ⟨r4, σ4, hc, h⟩ := bd_some h
        refine Rc.call (Ev.mono d) (v := some (.int r4)) (as := [.ref 117, .int v3]) (r := []) 10 rfl rfl rfl rfl ⟨rfl, Nat.le_of_ble_eq_true rfl⟩ (m_isOne_117_ok (by omega) hc) ?_
        show Rc _ _ _ (29, [(0, .ref 117), (1, .int v1), (2, .int v2), (3, .int v3)], [.int r4], σ4) _
        refine Rc.blk (c := []) (s2 := (if ¬ r4 = 0 then 38 else 32, [(0, .ref 117), (1, .int v1), (2, .int v2), (3, .int v3)], [], σ4)) 11 rfl rfl (trivial) ?_
        by_cases c10 : r4 = 0
        · rw [if_pos c10] at h
          refine Rc.ifn (fun q => q c10) ?_
          refine Rc.pick [0] (lv2 := [(0, .ref 117)]) rfl ?_
          exact m_rest_117_b32_ok hd _ _ _ h
        · rw [if_neg c10] at h
          refine Rc.ifp c10 ?_
          refine Rc.blk (c := []) (s2 := (40, [(0, .ref 117), (1, .int v1), (2, .int v2), (3, .int v3)], [.int v1, .ref 117], σ4)) 15 rfl rfl (trivial) ?_
          obtain ⟨r5, σ5, hc, h⟩ := bd_some h
          refine Rc.call (Ev.mono d) (v := some (.int r5)) (as := [.ref 117, .int v1]) (r := []) 16 rfl rfl rfl rfl ⟨rfl, Nat.le_of_ble_eq_true rfl⟩ (m_isChosen_117_ok (by omega) hc) ?_
          show Rc _ _ _ (43, [(0, .ref 117), (1, .int v1), (2, .int v2), (3, .int v3)], [.int r5], σ5) _
          refine Rc.blk (c := []) (s2 := (if ¬ r5 = 0 then 52 else 46, [(0, .ref 117), (1, .int v1), (2, .int v2), (3, .int v3)], [], σ5)) 17 rfl rfl (trivial) ?_
          by_cases c9 : r5 = 0
          · rw [if_pos c9] at h
            refine Rc.ifn (fun q => q c9) ?_
            refine Rc.blk (c := []) (s2 := (48, [(0, .ref 117), (1, .int v1), (2, .int v2), (3, .int v3)], [.int 3, .ref 117], σ5)) 18 rfl rfl (trivial) ?_
            obtain ⟨r8, σ8, hc, h⟩ := bd_some h
            refine Rc.call (Ev.mono d) (v := some (.int r8)) (as := [.ref 117, .int 3]) (r := []) 19 rfl rfl rfl rfl ⟨rfl, Nat.le_of_ble_eq_true rfl⟩ (m_refuseFar_117_ok (by omega) hc) ?_
            show Rc _ _ _ (51, [(0, .ref 117), (1, .int v1), (2, .int v2), (3, .int v3)], [.int r8], σ8) _
            obtain ⟨rfl, rfl⟩ := some_pair h
            exact Rc.ret 20 rfl rfl rfl trivial ⟨rfl, rfl⟩
          · rw [if_neg c9] at h
            refine Rc.ifp c9 ?_
            refine Rc.blk (c := []) (s2 := (55, [(0, .ref 117), (1, .int v1), (2, .int v2), (3, .int v3)], [.int v2, .int v1, .ref 117], σ5)) 21 rfl rfl (trivial) ?_
            obtain ⟨r6, σ6, hc, h⟩ := bd_some h
            refine Rc.call (Ev.mono d) (v := some (.int r6)) (as := [.ref 117, .int v1, .int v2]) (r := []) 22 rfl rfl rfl rfl ⟨rfl, Nat.le_of_ble_eq_true rfl⟩ (m_isHad_117_ok (by omega) hc) ?_
            show Rc _ _ _ (58, [(0, .ref 117), (1, .int v1), (2, .int v2), (3, .int v3)], [.int r6], σ6) _
            obtain ⟨g7, h⟩ := gd_some h
            refine Rc.blk (c := [_, _]) (s2 := (67, [(4, .int r6), (0, .ref 117), (1, .int v1), (2, .int v2), (3, .int v3)], [.int ((σ6.2 124 v3.toNatClampNeg).toInt32)], σ6)) 23 rfl rfl (conj_c (rfl) (conj_c (⟨rfl, inB_in g7⟩) (trivial))) ?_
            obtain ⟨rfl, rfl⟩ := some_pair h
            exact Rc.ret 24 rfl rfl rfl trivial ⟨rfl, rfl⟩
      · rw [if_neg c11] at h
        refine Rc.ifp c11 ?_
        refine Rc.pick [0] (lv2 := [(0, .ref 117)]) rfl ?_
        exact m_rest_117_b32_ok hd _ _ _ h
theorem m_sizesOf_117_b91_ok {d : Nat} (hd : 3 ≤ d) {k5 : Int32 → Int64 → Int32 → Sg → Option (Int64 × Sg)} (hk5 : ∀ (v1 : Int32) (v2 : Int64) (v4 : Int32) (σ : Sg) (r : Int64) (σ2 : Sg), k5 v1 v2 v4 σ = some (r, σ2) → Rc none (Ev MT CT d) sg164 (5, [(0, .ref 117), (1, .int v1), (2, .long v2), (4, .int v4)], [], σ) (fun v s => v = some (.long r) ∧ s = σ2)) (v1 : Int32) (v2 : Int64) (v4 : Int32) (σ : Sg) (r : Int64) (σ2 : Sg) (h : m_sizesOf_117_b91 k5 v1 v2 v4 σ = some (r, σ2)) : Rc none (Ev MT CT d) sg164 (91, [(0, .ref 117), (1, .int v1), (2, .long v2), (4, .int v4)], [], σ) (fun v s => v = some (.long r) ∧ s = σ2) := by
  unfold m_sizesOf_117_b91 at h
  refine Rc.blk (c := []) (s2 := (5, [(4, .int (v4 + 1)), (0, .ref 117), (1, .int v1), (2, .long v2)], [], σ)) 15 rfl rfl (trivial) ?_
  refine Rc.pick [1, 2, 3, 0] (lv2 := [(0, .ref 117), (1, .int v1), (2, .long v2), (4, .int (v4 + 1))]) rfl ?_
  exact hk5 _ _ _ _ _ _ h
theorem m_sizesOf_117_b83_ok {d : Nat} (hd : 3 ≤ d) {k5 : Int32 → Int64 → Int32 → Sg → Option (Int64 × Sg)} {k41 : Int32 → Int64 → Int32 → Int32 → Sg → Option (Int64 × Sg)} (hk5 : ∀ (v1 : Int32) (v2 : Int64) (v4 : Int32) (σ : Sg) (r : Int64) (σ2 : Sg), k5 v1 v2 v4 σ = some (r, σ2) → Rc none (Ev MT CT d) sg164 (5, [(0, .ref 117), (1, .int v1), (2, .long v2), (4, .int v4)], [], σ) (fun v s => v = some (.long r) ∧ s = σ2)) (hk41 : ∀ (v1 : Int32) (v2 : Int64) (v4 : Int32) (v5 : Int32) (σ : Sg) (r : Int64) (σ2 : Sg), k41 v1 v2 v4 v5 σ = some (r, σ2) → Rc none (Ev MT CT d) sg164 (41, [(0, .ref 117), (1, .int v1), (2, .long v2), (4, .int v4), (5, .int v5)], [], σ) (fun v s => v = some (.long r) ∧ s = σ2)) (v1 : Int32) (v4 : Int32) (v5 : Int32) (s0 : Int64) (s1 : Int64) (σ : Sg) (r : Int64) (σ2 : Sg) (h : m_sizesOf_117_b83 k5 k41 v1 v4 v5 s0 s1 σ = some (r, σ2)) : Rc none (Ev MT CT d) sg164 (83, [(0, .ref 117), (1, .int v1), (4, .int v4), (5, .int v5)], [.long s1, .long s0], σ) (fun v s => v = some (.long r) ∧ s = σ2) := by
  unfold m_sizesOf_117_b83 at h
  refine Rc.blk (c := []) (s2 := (41, [(5, .int (v5 + 1)), (2, .long (s0 + s1)), (0, .ref 117), (1, .int v1), (4, .int v4)], [], σ)) 14 rfl rfl (trivial) ?_
  refine Rc.pick [2, 3, 1, 4, 0] (lv2 := [(0, .ref 117), (1, .int v1), (2, .long (s0 + s1)), (4, .int v4), (5, .int (v5 + 1))]) rfl ?_
  exact hk41 _ _ _ _ _ _ _ h
theorem m_sizesOf_117_H41_ok {d : Nat} (hd : 3 ≤ d) {k5 : Int32 → Int64 → Int32 → Sg → Option (Int64 × Sg)} {k41 : Int32 → Int64 → Int32 → Int32 → Sg → Option (Int64 × Sg)} (hk5 : ∀ (v1 : Int32) (v2 : Int64) (v4 : Int32) (σ : Sg) (r : Int64) (σ2 : Sg), k5 v1 v2 v4 σ = some (r, σ2) → Rc none (Ev MT CT d) sg164 (5, [(0, .ref 117), (1, .int v1), (2, .long v2), (4, .int v4)], [], σ) (fun v s => v = some (.long r) ∧ s = σ2)) (hk41 : ∀ (v1 : Int32) (v2 : Int64) (v4 : Int32) (v5 : Int32) (σ : Sg) (r : Int64) (σ2 : Sg), k41 v1 v2 v4 v5 σ = some (r, σ2) → Rc none (Ev MT CT d) sg164 (41, [(0, .ref 117), (1, .int v1), (2, .long v2), (4, .int v4), (5, .int v5)], [], σ) (fun v s => v = some (.long r) ∧ s = σ2)) (v1 : Int32) (v2 : Int64) (v4 : Int32) (v5 : Int32) (σ : Sg) (r : Int64) (σ2 : Sg) (h : m_sizesOf_117_H41 k5 k41 v1 v2 v4 v5 σ = some (r, σ2)) : Rc none (Ev MT CT d) sg164 (41, [(0, .ref 117), (1, .int v1), (2, .long v2), (4, .int v4), (5, .int v5)], [], σ) (fun v s => v = some (.long r) ∧ s = σ2) := by
  unfold m_sizesOf_117_H41 at h
  refine Rc.blk (c := [_, _]) (s2 := (if (σ.1 118 0) ≤ v5 then 91 else 52, [(0, .ref 117), (1, .int v1), (2, .long v2), (4, .int v4), (5, .int v5)], [], σ)) 10 rfl rfl (conj_c (rfl) (conj_c (⟨rfl, inB_in (by decide)⟩) (trivial))) ?_
  by_cases c5 : (σ.1 118 0) ≤ v5
  · rw [if_pos c5] at h
    refine Rc.ifp c5 ?_
    refine Rc.pick [0, 1, 2, 3] (lv2 := [(0, .ref 117), (1, .int v1), (2, .long v2), (4, .int v4)]) rfl ?_
    exact m_sizesOf_117_b91_ok hd hk5 _ _ _ _ _ _ h
  · rw [if_neg c5] at h
    refine Rc.ifn c5 ?_
    obtain ⟨g1, h⟩ := gd_some h
    refine Rc.blk (c := [_, _]) (s2 := (if 0 ≤ (lg_cmp (σ.2 124 v5.toNatClampNeg) 0) then 76 else 65, [(0, .ref 117), (1, .int v1), (2, .long v2), (4, .int v4), (5, .int v5)], [.long v2], σ)) 11 rfl rfl (conj_c (rfl) (conj_c (⟨rfl, inB_in g1⟩) (trivial))) ?_
    by_cases c4 : 0 ≤ (lg_cmp (σ.2 124 v5.toNatClampNeg) 0)
    · rw [if_pos c4] at h
      refine Rc.ifp c4 ?_
      obtain ⟨g2, h⟩ := gd_some h
      refine Rc.blk (c := [_, _]) (s2 := (83, [(0, .ref 117), (1, .int v1), (2, .long v2), (4, .int v4), (5, .int v5)], [.long (σ.2 124 v5.toNatClampNeg), .long v2], σ)) 13 rfl rfl (conj_c (rfl) (conj_c (⟨rfl, inB_in g2⟩) (trivial))) ?_
      refine Rc.pick [0, 1, 3, 4] (lv2 := [(0, .ref 117), (1, .int v1), (4, .int v4), (5, .int v5)]) rfl ?_
      exact m_sizesOf_117_b83_ok hd hk5 hk41 _ _ _ _ _ _ _ _ h
    · rw [if_neg c4] at h
      refine Rc.ifn c4 ?_
      obtain ⟨g3, h⟩ := gd_some h
      refine Rc.blk (c := [_, _]) (s2 := (83, [(0, .ref 117), (1, .int v1), (2, .long v2), (4, .int v4), (5, .int v5)], [.long (-(σ.2 124 v5.toNatClampNeg)), .long v2], σ)) 12 rfl rfl (conj_c (rfl) (conj_c (⟨rfl, inB_in g3⟩) (trivial))) ?_
      refine Rc.pick [0, 1, 3, 4] (lv2 := [(0, .ref 117), (1, .int v1), (4, .int v4), (5, .int v5)]) rfl ?_
      exact m_sizesOf_117_b83_ok hd hk5 hk41 _ _ _ _ _ _ _ _ h
theorem m_sizesOf_117_L41_ok {d : Nat} (hd : 3 ≤ d) {k5 : Int32 → Int64 → Int32 → Sg → Option (Int64 × Sg)} (hk5 : ∀ (v1 : Int32) (v2 : Int64) (v4 : Int32) (σ : Sg) (r : Int64) (σ2 : Sg), k5 v1 v2 v4 σ = some (r, σ2) → Rc none (Ev MT CT d) sg164 (5, [(0, .ref 117), (1, .int v1), (2, .long v2), (4, .int v4)], [], σ) (fun v s => v = some (.long r) ∧ s = σ2)) : ∀ (n : Nat) (v1 : Int32) (v2 : Int64) (v4 : Int32) (v5 : Int32) (σ : Sg) (r : Int64) (σ2 : Sg), m_sizesOf_117_L41 k5 n v1 v2 v4 v5 σ = some (r, σ2) → Rc none (Ev MT CT d) sg164 (41, [(0, .ref 117), (1, .int v1), (2, .long v2), (4, .int v4), (5, .int v5)], [], σ) (fun v s => v = some (.long r) ∧ s = σ2)
  | 0, _, _, _, _, _, _, _, h => by cases h
  | n + 1, v1, v2, v4, v5, σ, r, σ2, h => m_sizesOf_117_H41_ok hd hk5 (m_sizesOf_117_L41_ok hd hk5 n) v1 v2 v4 v5 σ r σ2 h
theorem m_sizesOf_117_H5_ok {d : Nat} (hd : 3 ≤ d) {k5 : Int32 → Int64 → Int32 → Sg → Option (Int64 × Sg)} (hk5 : ∀ (v1 : Int32) (v2 : Int64) (v4 : Int32) (σ : Sg) (r : Int64) (σ2 : Sg), k5 v1 v2 v4 σ = some (r, σ2) → Rc none (Ev MT CT d) sg164 (5, [(0, .ref 117), (1, .int v1), (2, .long v2), (4, .int v4)], [], σ) (fun v s => v = some (.long r) ∧ s = σ2)) (v1 : Int32) (v2 : Int64) (v4 : Int32) (σ : Sg) (r : Int64) (σ2 : Sg) (h : m_sizesOf_117_H5 k5 v1 v2 v4 σ = some (r, σ2)) : Rc none (Ev MT CT d) sg164 (5, [(0, .ref 117), (1, .int v1), (2, .long v2), (4, .int v4)], [], σ) (fun v s => v = some (.long r) ∧ s = σ2) := by
  unfold m_sizesOf_117_H5 at h
  refine Rc.blk (c := [_, _]) (s2 := (if (σ.1 118 0) ≤ v4 then 97 else 16, [(0, .ref 117), (1, .int v1), (2, .long v2), (4, .int v4)], [], σ)) 1 rfl rfl (conj_c (rfl) (conj_c (⟨rfl, inB_in (by decide)⟩) (trivial))) ?_
  by_cases c5 : (σ.1 118 0) ≤ v4
  · rw [if_pos c5] at h
    refine Rc.ifp c5 ?_
    refine Rc.blk (c := []) (s2 := (98, [(0, .ref 117), (1, .int v1), (2, .long v2), (4, .int v4)], [.long v2], σ)) 16 rfl rfl (trivial) ?_
    obtain ⟨rfl, rfl⟩ := some_pair h
    exact Rc.ret 17 rfl rfl rfl trivial ⟨rfl, rfl⟩
  · rw [if_neg c5] at h
    refine Rc.ifn c5 ?_
    refine Rc.blk (c := []) (s2 := (19, [(0, .ref 117), (1, .int v1), (2, .long v2), (4, .int v4)], [.int v4, .int v1], σ)) 2 rfl rfl (trivial) ?_
    obtain ⟨r1, σ1, hc, h⟩ := bd_some h
    refine Rc.call (Ev.mono d) (v := some (.int r1)) (as := [.int v1, .int v4]) (r := []) 3 rfl rfl rfl rfl (Nat.le_of_ble_eq_true rfl) (m_has_s_ok (by omega) hc) ?_
    show Rc _ _ _ (22, [(0, .ref 117), (1, .int v1), (2, .long v2), (4, .int v4)], [.int r1], σ1) _
    refine Rc.blk (c := []) (s2 := (if ¬ r1 = 0 then 91 else 25, [(0, .ref 117), (1, .int v1), (2, .long v2), (4, .int v4)], [], σ1)) 4 rfl rfl (trivial) ?_
    by_cases c4 : r1 = 0
    · rw [if_pos c4] at h
      refine Rc.ifn (fun q => q c4) ?_
      refine Rc.blk (c := []) (s2 := (29, [(0, .ref 117), (1, .int v1), (2, .long v2), (4, .int v4)], [.int v4, .int v1, .ref 117], σ1)) 5 rfl rfl (trivial) ?_
      obtain ⟨r2, σ2, hc, h⟩ := bd_some h
      refine Rc.call (Ev.mono d) (v := some (.int r2)) (as := [.ref 117, .int v1, .int v4]) (r := []) 6 rfl rfl rfl rfl ⟨rfl, Nat.le_of_ble_eq_true rfl⟩ (m_isHad_117_ok (by omega) hc) ?_
      show Rc _ _ _ (32, [(0, .ref 117), (1, .int v1), (2, .long v2), (4, .int v4)], [.int r2], σ2) _
      refine Rc.blk (c := []) (s2 := (if ¬ r2 = 0 then 38 else 35, [(0, .ref 117), (1, .int v1), (2, .long v2), (4, .int v4)], [], σ2)) 7 rfl rfl (trivial) ?_
      by_cases c3 : r2 = 0
      · rw [if_pos c3] at h
        refine Rc.ifn (fun q => q c3) ?_
        refine Rc.blk (c := []) (s2 := (91, [(0, .ref 117), (1, .int v1), (2, .long v2), (4, .int v4)], [], σ2)) 8 rfl rfl (trivial) ?_
        exact m_sizesOf_117_b91_ok hd hk5 _ _ _ _ _ _ h
      · rw [if_neg c3] at h
        refine Rc.ifp c3 ?_
        refine Rc.blk (c := []) (s2 := (41, [(5, .int 0), (0, .ref 117), (1, .int v1), (2, .long v2), (4, .int v4)], [], σ2)) 9 rfl rfl (trivial) ?_
        refine Rc.pick [1, 2, 3, 4, 0] (lv2 := [(0, .ref 117), (1, .int v1), (2, .long v2), (4, .int v4), (5, .int 0)]) rfl ?_
        exact m_sizesOf_117_L41_ok hd hk5 fu _ _ _ _ _ _ _ h
    · rw [if_neg c4] at h
      refine Rc.ifp c4 ?_
      exact m_sizesOf_117_b91_ok hd hk5 _ _ _ _ _ _ h
theorem m_sizesOf_117_L5_ok {d : Nat} (hd : 3 ≤ d) : ∀ (n : Nat) (v1 : Int32) (v2 : Int64) (v4 : Int32) (σ : Sg) (r : Int64) (σ2 : Sg), m_sizesOf_117_L5 n v1 v2 v4 σ = some (r, σ2) → Rc none (Ev MT CT d) sg164 (5, [(0, .ref 117), (1, .int v1), (2, .long v2), (4, .int v4)], [], σ) (fun v s => v = some (.long r) ∧ s = σ2)
  | 0, _, _, _, _, _, _, h => by cases h
  | n + 1, v1, v2, v4, σ, r, σ2, h => m_sizesOf_117_H5_ok hd (m_sizesOf_117_L5_ok hd n) v1 v2 v4 σ r σ2 h
theorem m_sizesOf_117_ok {d : Nat} (hd : 4 ≤ d) {v1 : Int32} {σ : Sg} {r : Int64} {σ2 : Sg} (h : m_sizesOf_117 v1 σ = some (r, σ2)) : Ev MT CT d 164 [.ref 117, .int v1] σ (fun v s => v = some (.long r) ∧ s = σ2) := by
  obtain ⟨d, rfl⟩ : ∃ e, d = e + 1 := ⟨d - 1, by omega⟩
  refine ⟨Nat.le_of_ble_eq_true rfl, ?_⟩
  show Rc none (Ev MT CT d) sg164 (0, [(0, .ref 117), (1, .int v1)], [], σ) _
  unfold m_sizesOf_117 at h
  have hd : 3 ≤ d := by omega
  refine Rc.blk (c := []) (s2 := (5, [(4, .int 0), (2, .long 0), (0, .ref 117), (1, .int v1)], [], σ)) 0 rfl rfl (trivial) ?_
  refine Rc.pick [2, 3, 1, 0] (lv2 := [(0, .ref 117), (1, .int v1), (2, .long 0), (4, .int 0)]) rfl ?_
  exact m_sizesOf_117_L5_ok hd fu _ _ _ _ _ _ h
theorem m_sizes_117_b35_ok {d : Nat} (hd : 5 ≤ d) (s0 : Int64) (σ : Sg) (r : Int64) (σ2 : Sg) (h : m_sizes_117_b35 s0 σ = some (r, σ2)) : Rc none (Ev MT CT d) sg165 (35, [], [.long s0], σ) (fun v s => v = some (.long r) ∧ s = σ2) := by
  unfold m_sizes_117_b35 at h
  obtain ⟨rfl, rfl⟩ := some_pair h
  exact Rc.ret 14 rfl rfl rfl trivial ⟨rfl, rfl⟩
theorem m_sizes_117_ok {d : Nat} (hd : 6 ≤ d) {v1 : Int32} {σ : Sg} {r : Int64} {σ2 : Sg} (h : m_sizes_117 v1 σ = some (r, σ2)) : Ev MT CT d 165 [.ref 117, .int v1] σ (fun v s => v = some (.long r) ∧ s = σ2) := by
  obtain ⟨d, rfl⟩ : ∃ e, d = e + 1 := ⟨d - 1, by omega⟩
  refine ⟨Nat.le_of_ble_eq_true rfl, ?_⟩
  show Rc none (Ev MT CT d) sg165 (0, [(0, .ref 117), (1, .int v1)], [], σ) _
  unfold m_sizes_117 at h
  have hd : 5 ≤ d := by omega
  refine Rc.blk (c := []) (s2 := (2, [(0, .ref 117), (1, .int v1)], [.int v1, .ref 117], σ)) 0 rfl rfl (trivial) ?_
  obtain ⟨r1, σ1, hc, h⟩ := bd_some h
  refine Rc.call (Ev.mono d) (v := some (.int r1)) (as := [.ref 117, .int v1]) (r := []) 1 rfl rfl rfl rfl ⟨rfl, Nat.le_of_ble_eq_true rfl⟩ (m_isSet_117_ok (by omega) hc) ?_
  show Rc _ _ _ (5, [(0, .ref 117), (1, .int v1)], [.int r1], σ1) _
  refine Rc.blk (c := []) (s2 := (if ¬ r1 = 0 then 14 else 8, [(0, .ref 117), (1, .int v1)], [], σ1)) 2 rfl rfl (trivial) ?_
  by_cases c7 : r1 = 0
  · rw [if_pos c7] at h
    refine Rc.ifn (fun q => q c7) ?_
    refine Rc.blk (c := []) (s2 := (10, [(0, .ref 117), (1, .int v1)], [.int 1, .ref 117], σ1)) 3 rfl rfl (trivial) ?_
    obtain ⟨r6, σ6, hc, h⟩ := bd_some h
    refine Rc.call (Ev.mono d) (v := some (.long r6)) (as := [.ref 117, .int 1]) (r := []) 4 rfl rfl rfl rfl ⟨rfl, Nat.le_of_ble_eq_true rfl⟩ (m_refuseFarther_117_ok (by omega) hc) ?_
    show Rc _ _ _ (13, [(0, .ref 117), (1, .int v1)], [.long r6], σ6) _
    obtain ⟨rfl, rfl⟩ := some_pair h
    exact Rc.ret 5 rfl rfl rfl trivial ⟨rfl, rfl⟩
  · rw [if_neg c7] at h
    refine Rc.ifp c7 ?_
    refine Rc.blk (c := []) (s2 := (16, [(0, .ref 117), (1, .int v1)], [.int v1, .ref 117], σ1)) 6 rfl rfl (trivial) ?_
    obtain ⟨r2, σ2, hc, h⟩ := bd_some h
    refine Rc.call (Ev.mono d) (v := some (.int r2)) (as := [.ref 117, .int v1]) (r := []) 7 rfl rfl rfl rfl ⟨rfl, Nat.le_of_ble_eq_true rfl⟩ (m_isChosen_117_ok (by omega) hc) ?_
    show Rc _ _ _ (19, [(0, .ref 117), (1, .int v1)], [.int r2], σ2) _
    refine Rc.blk (c := []) (s2 := (if r2 = 0 then 30 else 22, [(0, .ref 117), (1, .int v1)], [], σ2)) 8 rfl rfl (trivial) ?_
    by_cases c5 : r2 = 0
    · rw [if_pos c5] at h
      refine Rc.ifp c5 ?_
      refine Rc.blk (c := []) (s2 := (32, [(0, .ref 117), (1, .int v1)], [.int 3, .ref 117], σ2)) 12 rfl rfl (trivial) ?_
      obtain ⟨r3, σ3, hc, h⟩ := bd_some h
      refine Rc.call (Ev.mono d) (v := some (.long r3)) (as := [.ref 117, .int 3]) (r := []) 13 rfl rfl rfl rfl ⟨rfl, Nat.le_of_ble_eq_true rfl⟩ (m_refuseFarther_117_ok (by omega) hc) ?_
      show Rc _ _ _ (35, [(0, .ref 117), (1, .int v1)], [.long r3], σ3) _
      refine Rc.pick [] (lv2 := []) rfl ?_
      exact m_sizes_117_b35_ok hd _ _ _ _ h
    · rw [if_neg c5] at h
      refine Rc.ifn c5 ?_
      refine Rc.blk (c := []) (s2 := (24, [(0, .ref 117), (1, .int v1)], [.int v1, .ref 117], σ2)) 9 rfl rfl (trivial) ?_
      obtain ⟨r4, σ4, hc, h⟩ := bd_some h
      refine Rc.call (Ev.mono d) (v := some (.long r4)) (as := [.ref 117, .int v1]) (r := []) 10 rfl rfl rfl rfl ⟨rfl, Nat.le_of_ble_eq_true rfl⟩ (m_sizesOf_117_ok (by omega) hc) ?_
      show Rc _ _ _ (27, [(0, .ref 117), (1, .int v1)], [.long r4], σ4) _
      refine Rc.blk (c := []) (s2 := (35, [(0, .ref 117), (1, .int v1)], [.long r4], σ4)) 11 rfl rfl (trivial) ?_
      refine Rc.pick [] (lv2 := []) rfl ?_
      exact m_sizes_117_b35_ok hd _ _ _ _ h
theorem m_bestSet_117_b64_ok {d : Nat} (hd : 5 ≤ d) {k7 : Int32 → Int32 → Int64 → Int32 → Sg → Option (Int32 × Sg)} (hk7 : ∀ (v1 : Int32) (v2 : Int32) (v3 : Int64) (v5 : Int32) (σ : Sg) (r : Int32) (σ2 : Sg), k7 v1 v2 v3 v5 σ = some (r, σ2) → Rc none (Ev MT CT d) sg167 (7, [(0, .ref 117), (1, .int v1), (2, .int v2), (3, .long v3), (5, .int v5)], [], σ) (fun v s => v = some (.int r) ∧ s = σ2)) (v1 : Int32) (v2 : Int32) (v3 : Int64) (v5 : Int32) (σ : Sg) (r : Int32) (σ2 : Sg) (h : m_bestSet_117_b64 k7 v1 v2 v3 v5 σ = some (r, σ2)) : Rc none (Ev MT CT d) sg167 (64, [(0, .ref 117), (1, .int v1), (2, .int v2), (3, .long v3), (5, .int v5)], [], σ) (fun v s => v = some (.int r) ∧ s = σ2) := by
  unfold m_bestSet_117_b64 at h
  refine Rc.blk (c := []) (s2 := (7, [(5, .int (v5 + 1)), (0, .ref 117), (1, .int v1), (2, .int v2), (3, .long v3)], [], σ)) 14 rfl rfl (trivial) ?_
  refine Rc.pick [1, 2, 3, 4, 0] (lv2 := [(0, .ref 117), (1, .int v1), (2, .int v2), (3, .long v3), (5, .int (v5 + 1))]) rfl ?_
  exact hk7 _ _ _ _ _ _ _ h
theorem m_bestSet_117_b58_ok {d : Nat} (hd : 5 ≤ d) {k7 : Int32 → Int32 → Int64 → Int32 → Sg → Option (Int32 × Sg)} (hk7 : ∀ (v1 : Int32) (v2 : Int32) (v3 : Int64) (v5 : Int32) (σ : Sg) (r : Int32) (σ2 : Sg), k7 v1 v2 v3 v5 σ = some (r, σ2) → Rc none (Ev MT CT d) sg167 (7, [(0, .ref 117), (1, .int v1), (2, .int v2), (3, .long v3), (5, .int v5)], [], σ) (fun v s => v = some (.int r) ∧ s = σ2)) (v1 : Int32) (v5 : Int32) (v6 : Int64) (σ : Sg) (r : Int32) (σ2 : Sg) (h : m_bestSet_117_b58 k7 v1 v5 v6 σ = some (r, σ2)) : Rc none (Ev MT CT d) sg167 (58, [(0, .ref 117), (1, .int v1), (5, .int v5), (6, .long v6)], [], σ) (fun v s => v = some (.int r) ∧ s = σ2) := by
  unfold m_bestSet_117_b58 at h
  refine Rc.blk (c := []) (s2 := (64, [(3, .long v6), (2, .int v5), (0, .ref 117), (1, .int v1), (5, .int v5), (6, .long v6)], [], σ)) 13 rfl rfl (trivial) ?_
  refine Rc.pick [2, 3, 1, 0, 4] (lv2 := [(0, .ref 117), (1, .int v1), (2, .int v5), (3, .long v6), (5, .int v5)]) rfl ?_
  exact m_bestSet_117_b64_ok hd hk7 _ _ _ _ _ _ _ h
theorem m_bestSet_117_H7_ok {d : Nat} (hd : 5 ≤ d) {k7 : Int32 → Int32 → Int64 → Int32 → Sg → Option (Int32 × Sg)} (hk7 : ∀ (v1 : Int32) (v2 : Int32) (v3 : Int64) (v5 : Int32) (σ : Sg) (r : Int32) (σ2 : Sg), k7 v1 v2 v3 v5 σ = some (r, σ2) → Rc none (Ev MT CT d) sg167 (7, [(0, .ref 117), (1, .int v1), (2, .int v2), (3, .long v3), (5, .int v5)], [], σ) (fun v s => v = some (.int r) ∧ s = σ2)) (v1 : Int32) (v2 : Int32) (v3 : Int64) (v5 : Int32) (σ : Sg) (r : Int32) (σ2 : Sg) (h : m_bestSet_117_H7 k7 v1 v2 v3 v5 σ = some (r, σ2)) : Rc none (Ev MT CT d) sg167 (7, [(0, .ref 117), (1, .int v1), (2, .int v2), (3, .long v3), (5, .int v5)], [], σ) (fun v s => v = some (.int r) ∧ s = σ2) := by
  unfold m_bestSet_117_H7 at h
  refine Rc.blk (c := [_, _]) (s2 := (if ((1 : Int32) <<< ((σ.1 118 0) &&& 31)) ≤ v5 then 70 else 20, [(0, .ref 117), (1, .int v1), (2, .int v2), (3, .long v3), (5, .int v5)], [], σ)) 1 rfl rfl (conj_c (rfl) (conj_c (⟨rfl, inB_in (by decide)⟩) (trivial))) ?_
  by_cases c7 : ((1 : Int32) <<< ((σ.1 118 0) &&& 31)) ≤ v5
  · rw [if_pos c7] at h
    refine Rc.ifp c7 ?_
    refine Rc.blk (c := []) (s2 := (71, [(0, .ref 117), (1, .int v1), (2, .int v2), (3, .long v3), (5, .int v5)], [.int v2], σ)) 15 rfl rfl (trivial) ?_
    obtain ⟨rfl, rfl⟩ := some_pair h
    exact Rc.ret 16 rfl rfl rfl trivial ⟨rfl, rfl⟩
  · rw [if_neg c7] at h
    refine Rc.ifn c7 ?_
    refine Rc.blk (c := []) (s2 := (23, [(0, .ref 117), (1, .int v1), (2, .int v2), (3, .long v3), (5, .int v5)], [.int v5, .ref 117], σ)) 2 rfl rfl (trivial) ?_
    obtain ⟨r1, σ1, hc, h⟩ := bd_some h
    refine Rc.call (Ev.mono d) (v := some (.int r1)) (as := [.ref 117, .int v5]) (r := []) 3 rfl rfl rfl rfl ⟨rfl, Nat.le_of_ble_eq_true rfl⟩ (m_isChosen_117_ok (by omega) hc) ?_
    show Rc _ _ _ (26, [(0, .ref 117), (1, .int v1), (2, .int v2), (3, .long v3), (5, .int v5)], [.int r1], σ1) _
    refine Rc.blk (c := []) (s2 := (if ¬ r1 = 0 then 32 else 29, [(0, .ref 117), (1, .int v1), (2, .int v2), (3, .long v3), (5, .int v5)], [], σ1)) 4 rfl rfl (trivial) ?_
    by_cases c6 : r1 = 0
    · rw [if_pos c6] at h
      refine Rc.ifn (fun q => q c6) ?_
      refine Rc.blk (c := []) (s2 := (64, [(0, .ref 117), (1, .int v1), (2, .int v2), (3, .long v3), (5, .int v5)], [], σ1)) 5 rfl rfl (trivial) ?_
      exact m_bestSet_117_b64_ok hd hk7 _ _ _ _ _ _ _ h
    · rw [if_neg c6] at h
      refine Rc.ifp c6 ?_
      refine Rc.blk (c := []) (s2 := (if v1 = 0 then 39 else 36, [(0, .ref 117), (1, .int v1), (2, .int v2), (3, .long v3), (5, .int v5)], [], σ1)) 6 rfl rfl (trivial) ?_
      by_cases c5 : v1 = 0
      · rw [if_pos c5] at h
        refine Rc.ifp c5 ?_
        refine Rc.blk (c := []) (s2 := (42, [(0, .ref 117), (1, .int v1), (2, .int v2), (3, .long v3), (5, .int v5)], [.int v5, .ref 117], σ1)) 9 rfl rfl (trivial) ?_
        obtain ⟨r2, σ2, hc, h⟩ := bd_some h
        refine Rc.call (Ev.mono d) (v := some (.long r2)) (as := [.ref 117, .int v5]) (r := []) 10 rfl rfl rfl rfl ⟨rfl, Nat.le_of_ble_eq_true rfl⟩ (m_sizesOf_117_ok (by omega) hc) ?_
        show Rc _ _ _ (45, [(0, .ref 117), (1, .int v1), (2, .int v2), (3, .long v3), (5, .int v5)], [.long r2], σ2) _
        refine Rc.blk (c := []) (s2 := (if v2 < 0 then 58 else 51, [(6, .long r2), (0, .ref 117), (1, .int v1), (2, .int v2), (3, .long v3), (5, .int v5)], [], σ2)) 11 rfl rfl (trivial) ?_
        by_cases c4 : v2 < 0
        · rw [if_pos c4] at h
          refine Rc.ifp c4 ?_
          refine Rc.pick [1, 2, 5, 0] (lv2 := [(0, .ref 117), (1, .int v1), (5, .int v5), (6, .long r2)]) rfl ?_
          exact m_bestSet_117_b58_ok hd hk7 _ _ _ _ _ _ h
        · rw [if_neg c4] at h
          refine Rc.ifn c4 ?_
          refine Rc.blk (c := []) (s2 := (if 0 ≤ (lg_cmp r2 v3) then 64 else 58, [(6, .long r2), (0, .ref 117), (1, .int v1), (2, .int v2), (3, .long v3), (5, .int v5)], [], σ2)) 12 rfl rfl (trivial) ?_
          by_cases c3 : 0 ≤ (lg_cmp r2 v3)
          · rw [if_pos c3] at h
            refine Rc.ifp c3 ?_
            refine Rc.pick [1, 2, 3, 4, 5] (lv2 := [(0, .ref 117), (1, .int v1), (2, .int v2), (3, .long v3), (5, .int v5)]) rfl ?_
            exact m_bestSet_117_b64_ok hd hk7 _ _ _ _ _ _ _ h
          · rw [if_neg c3] at h
            refine Rc.ifn c3 ?_
            refine Rc.pick [1, 2, 5, 0] (lv2 := [(0, .ref 117), (1, .int v1), (5, .int v5), (6, .long r2)]) rfl ?_
            exact m_bestSet_117_b58_ok hd hk7 _ _ _ _ _ _ h
      · rw [if_neg c5] at h
        refine Rc.ifn c5 ?_
        refine Rc.blk (c := []) (s2 := (38, [(0, .ref 117), (1, .int v1), (2, .int v2), (3, .long v3), (5, .int v5)], [.int v5], σ1)) 7 rfl rfl (trivial) ?_
        obtain ⟨rfl, rfl⟩ := some_pair h
        exact Rc.ret 8 rfl rfl rfl trivial ⟨rfl, rfl⟩
theorem m_bestSet_117_L7_ok {d : Nat} (hd : 5 ≤ d) : ∀ (n : Nat) (v1 : Int32) (v2 : Int32) (v3 : Int64) (v5 : Int32) (σ : Sg) (r : Int32) (σ2 : Sg), m_bestSet_117_L7 n v1 v2 v3 v5 σ = some (r, σ2) → Rc none (Ev MT CT d) sg167 (7, [(0, .ref 117), (1, .int v1), (2, .int v2), (3, .long v3), (5, .int v5)], [], σ) (fun v s => v = some (.int r) ∧ s = σ2)
  | 0, _, _, _, _, _, _, _, h => by cases h
  | n + 1, v1, v2, v3, v5, σ, r, σ2, h => m_bestSet_117_H7_ok hd (m_bestSet_117_L7_ok hd n) v1 v2 v3 v5 σ r σ2 h
theorem m_bestSet_117_ok {d : Nat} (hd : 6 ≤ d) {v1 : Int32} {σ : Sg} {r : Int32} {σ2 : Sg} (h : m_bestSet_117 v1 σ = some (r, σ2)) : Ev MT CT d 167 [.ref 117, .int v1] σ (fun v s => v = some (.int r) ∧ s = σ2) := by
  obtain ⟨d, rfl⟩ : ∃ e, d = e + 1 := ⟨d - 1, by omega⟩
  refine ⟨Nat.le_of_ble_eq_true rfl, ?_⟩
  show Rc none (Ev MT CT d) sg167 (0, [(0, .ref 117), (1, .int v1)], [], σ) _
  unfold m_bestSet_117 at h
  have hd : 5 ≤ d := by omega
  refine Rc.blk (c := []) (s2 := (7, [(5, .int 0), (3, .long 0), (2, .int (-1)), (0, .ref 117), (1, .int v1)], [], σ)) 0 rfl rfl (trivial) ?_
  refine Rc.pick [3, 4, 2, 1, 0] (lv2 := [(0, .ref 117), (1, .int v1), (2, .int (-1)), (3, .long 0), (5, .int 0)]) rfl ?_
  exact m_bestSet_117_L7_ok hd fu _ _ _ _ _ _ _ h
theorem m_chosen_117_b30_ok {d : Nat} (hd : 5 ≤ d) {k4 : Int32 → Int32 → Sg → Option (Int32 × Sg)} (hk4 : ∀ (v1 : Int32) (v2 : Int32) (σ : Sg) (r : Int32) (σ2 : Sg), k4 v1 v2 σ = some (r, σ2) → Rc none (Ev MT CT d) sg166 (4, [(0, .ref 117), (1, .int v1), (2, .int v2)], [], σ) (fun v s => v = some (.int r) ∧ s = σ2)) (v2 : Int32) (s0 : Int32) (s1 : Int32) (σ : Sg) (r : Int32) (σ2 : Sg) (h : m_chosen_117_b30 k4 v2 s0 s1 σ = some (r, σ2)) : Rc none (Ev MT CT d) sg166 (30, [(0, .ref 117), (2, .int v2)], [.int s1, .int s0], σ) (fun v s => v = some (.int r) ∧ s = σ2) := by
  unfold m_chosen_117_b30 at h
  refine Rc.blk (c := []) (s2 := (4, [(2, .int (v2 + 1)), (1, .int (s0 + s1)), (0, .ref 117)], [], σ)) 7 rfl rfl (trivial) ?_
  refine Rc.pick [2, 1, 0] (lv2 := [(0, .ref 117), (1, .int (s0 + s1)), (2, .int (v2 + 1))]) rfl ?_
  exact hk4 _ _ _ _ _ h
theorem m_chosen_117_H4_ok {d : Nat} (hd : 5 ≤ d) {k4 : Int32 → Int32 → Sg → Option (Int32 × Sg)} (hk4 : ∀ (v1 : Int32) (v2 : Int32) (σ : Sg) (r : Int32) (σ2 : Sg), k4 v1 v2 σ = some (r, σ2) → Rc none (Ev MT CT d) sg166 (4, [(0, .ref 117), (1, .int v1), (2, .int v2)], [], σ) (fun v s => v = some (.int r) ∧ s = σ2)) (v1 : Int32) (v2 : Int32) (σ : Sg) (r : Int32) (σ2 : Sg) (h : m_chosen_117_H4 k4 v1 v2 σ = some (r, σ2)) : Rc none (Ev MT CT d) sg166 (4, [(0, .ref 117), (1, .int v1), (2, .int v2)], [], σ) (fun v s => v = some (.int r) ∧ s = σ2) := by
  unfold m_chosen_117_H4 at h
  refine Rc.blk (c := [_, _]) (s2 := (if ((1 : Int32) <<< ((σ.1 118 0) &&& 31)) ≤ v2 then 38 else 16, [(0, .ref 117), (1, .int v1), (2, .int v2)], [], σ)) 1 rfl rfl (conj_c (rfl) (conj_c (⟨rfl, inB_in (by decide)⟩) (trivial))) ?_
  by_cases c3 : ((1 : Int32) <<< ((σ.1 118 0) &&& 31)) ≤ v2
  · rw [if_pos c3] at h
    refine Rc.ifp c3 ?_
    refine Rc.blk (c := []) (s2 := (39, [(0, .ref 117), (1, .int v1), (2, .int v2)], [.int v1], σ)) 8 rfl rfl (trivial) ?_
    obtain ⟨rfl, rfl⟩ := some_pair h
    exact Rc.ret 9 rfl rfl rfl trivial ⟨rfl, rfl⟩
  · rw [if_neg c3] at h
    refine Rc.ifn c3 ?_
    refine Rc.blk (c := []) (s2 := (19, [(0, .ref 117), (1, .int v1), (2, .int v2)], [.int v2, .ref 117, .int v1], σ)) 2 rfl rfl (trivial) ?_
    obtain ⟨r1, σ1, hc, h⟩ := bd_some h
    refine Rc.call (Ev.mono d) (v := some (.int r1)) (as := [.ref 117, .int v2]) (r := [.int v1]) 3 rfl rfl rfl rfl ⟨rfl, Nat.le_of_ble_eq_true rfl⟩ (m_isChosen_117_ok (by omega) hc) ?_
    show Rc _ _ _ (22, [(0, .ref 117), (1, .int v1), (2, .int v2)], [.int r1, .int v1], σ1) _
    refine Rc.blk (c := []) (s2 := (if r1 = 0 then 29 else 25, [(0, .ref 117), (1, .int v1), (2, .int v2)], [.int v1], σ1)) 4 rfl rfl (trivial) ?_
    by_cases c2 : r1 = 0
    · rw [if_pos c2] at h
      refine Rc.ifp c2 ?_
      refine Rc.blk (c := []) (s2 := (30, [(0, .ref 117), (1, .int v1), (2, .int v2)], [.int 0, .int v1], σ1)) 6 rfl rfl (trivial) ?_
      refine Rc.pick [0, 2] (lv2 := [(0, .ref 117), (2, .int v2)]) rfl ?_
      exact m_chosen_117_b30_ok hd hk4 _ _ _ _ _ _ h
    · rw [if_neg c2] at h
      refine Rc.ifn c2 ?_
      refine Rc.blk (c := []) (s2 := (30, [(0, .ref 117), (1, .int v1), (2, .int v2)], [.int 1, .int v1], σ1)) 5 rfl rfl (trivial) ?_
      refine Rc.pick [0, 2] (lv2 := [(0, .ref 117), (2, .int v2)]) rfl ?_
      exact m_chosen_117_b30_ok hd hk4 _ _ _ _ _ _ h
theorem m_chosen_117_L4_ok {d : Nat} (hd : 5 ≤ d) : ∀ (n : Nat) (v1 : Int32) (v2 : Int32) (σ : Sg) (r : Int32) (σ2 : Sg), m_chosen_117_L4 n v1 v2 σ = some (r, σ2) → Rc none (Ev MT CT d) sg166 (4, [(0, .ref 117), (1, .int v1), (2, .int v2)], [], σ) (fun v s => v = some (.int r) ∧ s = σ2)
  | 0, _, _, _, _, _, h => by cases h
  | n + 1, v1, v2, σ, r, σ2, h => m_chosen_117_H4_ok hd (m_chosen_117_L4_ok hd n) v1 v2 σ r σ2 h
theorem m_chosen_117_ok {d : Nat} (hd : 6 ≤ d) {σ : Sg} {r : Int32} {σ2 : Sg} (h : m_chosen_117 σ = some (r, σ2)) : Ev MT CT d 166 [.ref 117] σ (fun v s => v = some (.int r) ∧ s = σ2) := by
  obtain ⟨d, rfl⟩ : ∃ e, d = e + 1 := ⟨d - 1, by omega⟩
  refine ⟨Nat.le_of_ble_eq_true rfl, ?_⟩
  show Rc none (Ev MT CT d) sg166 (0, [(0, .ref 117)], [], σ) _
  unfold m_chosen_117 at h
  have hd : 5 ≤ d := by omega
  refine Rc.blk (c := []) (s2 := (4, [(2, .int 0), (1, .int 0), (0, .ref 117)], [], σ)) 0 rfl rfl (trivial) ?_
  refine Rc.pick [2, 1, 0] (lv2 := [(0, .ref 117), (1, .int 0), (2, .int 0)]) rfl ?_
  exact m_chosen_117_L4_ok hd fu _ _ _ _ _ h
theorem m_sets1_117_b43_ok {d : Nat} (hd : 6 ≤ d) (s0 : Int32) (σ : Sg) (r : Int32) (σ2 : Sg) (h : m_sets1_117_b43 s0 σ = some (r, σ2)) : Rc none (Ev MT CT d) sg168 (43, [], [.int s0], σ) (fun v s => v = some (.int r) ∧ s = σ2) := by
  unfold m_sets1_117_b43 at h
  obtain ⟨rfl, rfl⟩ := some_pair h
  exact Rc.ret 14 rfl rfl rfl trivial ⟨rfl, rfl⟩
theorem m_sets1_117_b40_ok {d : Nat} (hd : 6 ≤ d) (s1 : Int32) (σ : Sg) (r : Int32) (σ2 : Sg) (h : m_sets1_117_b40 s1 σ = some (r, σ2)) : Rc none (Ev MT CT d) sg168 (40, [], [.int s1, .ref 117], σ) (fun v s => v = some (.int r) ∧ s = σ2) := by
  unfold m_sets1_117_b40 at h
  obtain ⟨r1, σ1, hc, h⟩ := bd_some h
  refine Rc.call (Ev.mono d) (v := some (.int r1)) (as := [.ref 117, .int s1]) (r := []) 13 rfl rfl rfl rfl ⟨rfl, Nat.le_of_ble_eq_true rfl⟩ (m_bestSet_117_ok (by omega) hc) ?_
  show Rc _ _ _ (43, [], [.int r1], σ1) _
  exact m_sets1_117_b43_ok hd _ _ _ _ h
theorem m_sets1_117_ok {d : Nat} (hd : 7 ≤ d) {v1 : Int32} {σ : Sg} {r : Int32} {σ2 : Sg} (h : m_sets1_117 v1 σ = some (r, σ2)) : Ev MT CT d 168 [.ref 117, .int v1] σ (fun v s => v = some (.int r) ∧ s = σ2) := by
  obtain ⟨d, rfl⟩ : ∃ e, d = e + 1 := ⟨d - 1, by omega⟩
  refine ⟨Nat.le_of_ble_eq_true rfl, ?_⟩
  show Rc none (Ev MT CT d) sg168 (0, [(0, .ref 117), (1, .int v1)], [], σ) _
  unfold m_sets1_117 at h
  have hd : 6 ≤ d := by omega
  refine Rc.blk (c := []) (s2 := (6, [(0, .ref 117), (1, .int v1)], [.long 2, .long 0, .long v1.toInt64], σ)) 0 rfl rfl (trivial) ?_
  obtain ⟨r1, σ1, hc, h⟩ := bd_some h
  refine Rc.call (Ev.mono d) (v := some (.int r1)) (as := [.long v1.toInt64, .long 0, .long 2]) (r := []) 1 rfl rfl rfl rfl (Nat.le_of_ble_eq_true rfl) (m_isIn_s_ok (by omega) hc) ?_
  show Rc _ _ _ (9, [(0, .ref 117), (1, .int v1)], [.int r1], σ1) _
  refine Rc.blk (c := []) (s2 := (if ¬ r1 = 0 then 18 else 12, [(0, .ref 117), (1, .int v1)], [], σ1)) 2 rfl rfl (trivial) ?_
  by_cases c6 : r1 = 0
  · rw [if_pos c6] at h
    refine Rc.ifn (fun q => q c6) ?_
    refine Rc.blk (c := []) (s2 := (14, [(0, .ref 117), (1, .int v1)], [.int 2, .ref 117], σ1)) 3 rfl rfl (trivial) ?_
    obtain ⟨r5, σ5, hc, h⟩ := bd_some h
    refine Rc.call (Ev.mono d) (v := some (.int r5)) (as := [.ref 117, .int 2]) (r := []) 4 rfl rfl rfl rfl ⟨rfl, Nat.le_of_ble_eq_true rfl⟩ (m_refuse_117_ok (by omega) hc) ?_
    show Rc _ _ _ (17, [(0, .ref 117), (1, .int v1)], [.int r5], σ5) _
    obtain ⟨rfl, rfl⟩ := some_pair h
    exact Rc.ret 5 rfl rfl rfl trivial ⟨rfl, rfl⟩
  · rw [if_neg c6] at h
    refine Rc.ifp c6 ?_
    refine Rc.blk (c := []) (s2 := (if ¬ v1 = 0 then 29 else 22, [(0, .ref 117), (1, .int v1)], [], σ1)) 6 rfl rfl (trivial) ?_
    by_cases c4 : v1 = 0
    · rw [if_pos c4] at h
      refine Rc.ifn (fun q => q c4) ?_
      refine Rc.blk (c := []) (s2 := (23, [(0, .ref 117), (1, .int v1)], [.ref 117], σ1)) 7 rfl rfl (trivial) ?_
      obtain ⟨r3, σ3, hc, h⟩ := bd_some h
      refine Rc.call (Ev.mono d) (v := some (.int r3)) (as := [.ref 117]) (r := []) 8 rfl rfl rfl rfl ⟨rfl, Nat.le_of_ble_eq_true rfl⟩ (m_chosen_117_ok (by omega) hc) ?_
      show Rc _ _ _ (26, [(0, .ref 117), (1, .int v1)], [.int r3], σ3) _
      refine Rc.blk (c := []) (s2 := (43, [(0, .ref 117), (1, .int v1)], [.int r3], σ3)) 9 rfl rfl (trivial) ?_
      refine Rc.pick [] (lv2 := []) rfl ?_
      exact m_sets1_117_b43_ok hd _ _ _ _ h
    · rw [if_neg c4] at h
      refine Rc.ifp c4 ?_
      refine Rc.blk (c := []) (s2 := (if ¬ v1 = 1 then 39 else 35, [(0, .ref 117), (1, .int v1)], [.ref 117], σ1)) 10 rfl rfl (trivial) ?_
      by_cases c2 : v1 = 1
      · rw [if_pos c2] at h
        refine Rc.ifn (fun q => q c2) ?_
        refine Rc.blk (c := []) (s2 := (40, [(0, .ref 117), (1, .int v1)], [.int 1, .ref 117], σ1)) 11 rfl rfl (trivial) ?_
        refine Rc.pick [] (lv2 := []) rfl ?_
        exact m_sets1_117_b40_ok hd _ _ _ _ h
      · rw [if_neg c2] at h
        refine Rc.ifp c2 ?_
        refine Rc.blk (c := []) (s2 := (40, [(0, .ref 117), (1, .int v1)], [.int 0, .ref 117], σ1)) 12 rfl rfl (trivial) ?_
        refine Rc.pick [] (lv2 := []) rfl ?_
        exact m_sets1_117_b40_ok hd _ _ _ _ h
theorem m_odds_117_b57_ok {d : Nat} (hd : 6 ≤ d) {k29 : Int32 → Int32 → Int32 → Int32 → Sg → Option (Int64 × Sg)} (hk29 : ∀ (v1 : Int32) (v2 : Int32) (v3 : Int32) (v4 : Int32) (σ : Sg) (r : Int64) (σ2 : Sg), k29 v1 v2 v3 v4 σ = some (r, σ2) → Rc none (Ev MT CT d) sg169 (29, [(0, .ref 117), (1, .int v1), (2, .int v2), (3, .int v3), (4, .int v4)], [], σ) (fun v s => v = some (.long r) ∧ s = σ2)) (v1 : Int32) (v3 : Int32) (v4 : Int32) (s0 : Int32) (s1 : Int32) (σ : Sg) (r : Int64) (σ2 : Sg) (h : m_odds_117_b57 k29 v1 v3 v4 s0 s1 σ = some (r, σ2)) : Rc none (Ev MT CT d) sg169 (57, [(0, .ref 117), (1, .int v1), (3, .int v3), (4, .int v4)], [.int s1, .int s0], σ) (fun v s => v = some (.long r) ∧ s = σ2) := by
  unfold m_odds_117_b57 at h
  refine Rc.blk (c := []) (s2 := (29, [(4, .int (v4 + 1)), (2, .int (s0 + s1)), (0, .ref 117), (1, .int v1), (3, .int v3)], [], σ)) 16 rfl rfl (trivial) ?_
  refine Rc.pick [2, 3, 1, 4, 0] (lv2 := [(0, .ref 117), (1, .int v1), (2, .int (s0 + s1)), (3, .int v3), (4, .int (v4 + 1))]) rfl ?_
  exact hk29 _ _ _ _ _ _ _ h
theorem m_odds_117_H29_ok {d : Nat} (hd : 6 ≤ d) {k29 : Int32 → Int32 → Int32 → Int32 → Sg → Option (Int64 × Sg)} (hk29 : ∀ (v1 : Int32) (v2 : Int32) (v3 : Int32) (v4 : Int32) (σ : Sg) (r : Int64) (σ2 : Sg), k29 v1 v2 v3 v4 σ = some (r, σ2) → Rc none (Ev MT CT d) sg169 (29, [(0, .ref 117), (1, .int v1), (2, .int v2), (3, .int v3), (4, .int v4)], [], σ) (fun v s => v = some (.long r) ∧ s = σ2)) (v1 : Int32) (v2 : Int32) (v3 : Int32) (v4 : Int32) (σ : Sg) (r : Int64) (σ2 : Sg) (h : m_odds_117_H29 k29 v1 v2 v3 v4 σ = some (r, σ2)) : Rc none (Ev MT CT d) sg169 (29, [(0, .ref 117), (1, .int v1), (2, .int v2), (3, .int v3), (4, .int v4)], [], σ) (fun v s => v = some (.long r) ∧ s = σ2) := by
  unfold m_odds_117_H29 at h
  refine Rc.blk (c := [_, _]) (s2 := (if ((1 : Int32) <<< ((σ.1 118 0) &&& 31)) ≤ v4 then 65 else 42, [(0, .ref 117), (1, .int v1), (2, .int v2), (3, .int v3), (4, .int v4)], [], σ)) 10 rfl rfl (conj_c (rfl) (conj_c (⟨rfl, inB_in (by decide)⟩) (trivial))) ?_
  by_cases c5 : ((1 : Int32) <<< ((σ.1 118 0) &&& 31)) ≤ v4
  · rw [if_pos c5] at h
    refine Rc.ifp c5 ?_
    refine Rc.blk (c := []) (s2 := (66, [(0, .ref 117), (1, .int v1), (2, .int v2), (3, .int v3), (4, .int v4)], [.ref 117], σ)) 17 rfl rfl (trivial) ?_
    obtain ⟨r1, σ1, hc, h⟩ := bd_some h
    refine Rc.call (Ev.mono d) (v := some (.int r1)) (as := [.ref 117]) (r := []) 18 rfl rfl rfl rfl ⟨rfl, Nat.le_of_ble_eq_true rfl⟩ (m_chosen_117_ok (by omega) hc) ?_
    show Rc _ _ _ (69, [(0, .ref 117), (1, .int v1), (2, .int v2), (3, .int v3), (4, .int v4)], [.int r1], σ1) _
    refine Rc.blk (c := []) (s2 := (73, [(0, .ref 117), (1, .int v1), (2, .int v2), (3, .int v3), (4, .int v4)], [.int v1, .long v2.toInt64, .long r1.toInt64], σ1)) 19 rfl rfl (trivial) ?_
    obtain ⟨r2, σ2, hc, h⟩ := bd_some h
    refine Rc.call (Ev.mono d) (v := some (.long r2)) (as := [.long r1.toInt64, .long v2.toInt64, .int v1]) (r := []) 20 rfl rfl rfl rfl (Nat.le_of_ble_eq_true rfl) (m_partOf_s_ok (by omega) hc) ?_
    show Rc _ _ _ (76, [(0, .ref 117), (1, .int v1), (2, .int v2), (3, .int v3), (4, .int v4)], [.long r2], σ2) _
    obtain ⟨rfl, rfl⟩ := some_pair h
    exact Rc.ret 21 rfl rfl rfl trivial ⟨rfl, rfl⟩
  · rw [if_neg c5] at h
    refine Rc.ifn c5 ?_
    refine Rc.blk (c := []) (s2 := (45, [(0, .ref 117), (1, .int v1), (2, .int v2), (3, .int v3), (4, .int v4)], [.int v4, .int v2], σ)) 11 rfl rfl (trivial) ?_
    obtain ⟨r3, σ3, hc, h⟩ := bd_some h
    refine Rc.call (Ev.mono d) (v := some (.int r3)) (as := [.int v4]) (r := [.int v2]) 12 rfl rfl rfl rfl (Nat.le_of_ble_eq_true rfl) (m_bits_s_ok (by omega) hc) ?_
    show Rc _ _ _ (48, [(0, .ref 117), (1, .int v1), (2, .int v2), (3, .int v3), (4, .int v4)], [.int r3, .int v2], σ3) _
    refine Rc.blk (c := []) (s2 := (if ¬ r3 = v3 then 56 else 52, [(0, .ref 117), (1, .int v1), (2, .int v2), (3, .int v3), (4, .int v4)], [.int v2], σ3)) 13 rfl rfl (trivial) ?_
    by_cases c4 : r3 = v3
    · rw [if_pos c4] at h
      refine Rc.ifn (fun q => q c4) ?_
      refine Rc.blk (c := []) (s2 := (57, [(0, .ref 117), (1, .int v1), (2, .int v2), (3, .int v3), (4, .int v4)], [.int 1, .int v2], σ3)) 14 rfl rfl (trivial) ?_
      refine Rc.pick [0, 1, 3, 4] (lv2 := [(0, .ref 117), (1, .int v1), (3, .int v3), (4, .int v4)]) rfl ?_
      exact m_odds_117_b57_ok hd hk29 _ _ _ _ _ _ _ _ h
    · rw [if_neg c4] at h
      refine Rc.ifp c4 ?_
      refine Rc.blk (c := []) (s2 := (57, [(0, .ref 117), (1, .int v1), (2, .int v2), (3, .int v3), (4, .int v4)], [.int 0, .int v2], σ3)) 15 rfl rfl (trivial) ?_
      refine Rc.pick [0, 1, 3, 4] (lv2 := [(0, .ref 117), (1, .int v1), (3, .int v3), (4, .int v4)]) rfl ?_
      exact m_odds_117_b57_ok hd hk29 _ _ _ _ _ _ _ _ h
theorem m_odds_117_L29_ok {d : Nat} (hd : 6 ≤ d) : ∀ (n : Nat) (v1 : Int32) (v2 : Int32) (v3 : Int32) (v4 : Int32) (σ : Sg) (r : Int64) (σ2 : Sg), m_odds_117_L29 n v1 v2 v3 v4 σ = some (r, σ2) → Rc none (Ev MT CT d) sg169 (29, [(0, .ref 117), (1, .int v1), (2, .int v2), (3, .int v3), (4, .int v4)], [], σ) (fun v s => v = some (.long r) ∧ s = σ2)
  | 0, _, _, _, _, _, _, _, h => by cases h
  | n + 1, v1, v2, v3, v4, σ, r, σ2, h => m_odds_117_H29_ok hd (m_odds_117_L29_ok hd n) v1 v2 v3 v4 σ r σ2 h
theorem m_odds_117_ok {d : Nat} (hd : 7 ≤ d) {v1 : Int32} {σ : Sg} {r : Int64} {σ2 : Sg} (h : m_odds_117 v1 σ = some (r, σ2)) : Ev MT CT d 169 [.ref 117, .int v1] σ (fun v s => v = some (.long r) ∧ s = σ2) := by
  obtain ⟨d, rfl⟩ : ∃ e, d = e + 1 := ⟨d - 1, by omega⟩
  refine ⟨Nat.le_of_ble_eq_true rfl, ?_⟩
  show Rc none (Ev MT CT d) sg169 (0, [(0, .ref 117), (1, .int v1)], [], σ) _
  unfold m_odds_117 at h
  have hd : 6 ≤ d := by omega
  refine Rc.blk (c := []) (s2 := (4, [(0, .ref 117), (1, .int v1)], [.long 1, .long 0, .long v1.toInt64], σ)) 0 rfl rfl (trivial) ?_
  obtain ⟨r1, σ1, hc, h⟩ := bd_some h
  refine Rc.call (Ev.mono d) (v := some (.int r1)) (as := [.long v1.toInt64, .long 0, .long 1]) (r := []) 1 rfl rfl rfl rfl (Nat.le_of_ble_eq_true rfl) (m_isIn_s_ok (by omega) hc) ?_
  show Rc _ _ _ (7, [(0, .ref 117), (1, .int v1)], [.int r1], σ1) _
  refine Rc.blk (c := []) (s2 := (if ¬ r1 = 0 then 16 else 10, [(0, .ref 117), (1, .int v1)], [], σ1)) 2 rfl rfl (trivial) ?_
  by_cases c5 : r1 = 0
  · rw [if_pos c5] at h
    refine Rc.ifn (fun q => q c5) ?_
    refine Rc.blk (c := []) (s2 := (12, [(0, .ref 117), (1, .int v1)], [.int 2, .ref 117], σ1)) 3 rfl rfl (trivial) ?_
    obtain ⟨r4, σ4, hc, h⟩ := bd_some h
    refine Rc.call (Ev.mono d) (v := some (.long r4)) (as := [.ref 117, .int 2]) (r := []) 4 rfl rfl rfl rfl ⟨rfl, Nat.le_of_ble_eq_true rfl⟩ (m_refuseFarther_117_ok (by omega) hc) ?_
    show Rc _ _ _ (15, [(0, .ref 117), (1, .int v1)], [.long r4], σ4) _
    obtain ⟨rfl, rfl⟩ := some_pair h
    exact Rc.ret 5 rfl rfl rfl trivial ⟨rfl, rfl⟩
  · rw [if_neg c5] at h
    refine Rc.ifp c5 ?_
    refine Rc.blk (c := []) (s2 := (19, [(2, .int 0), (0, .ref 117), (1, .int v1)], [.ref 117], σ1)) 6 rfl rfl (trivial) ?_
    obtain ⟨r2, σ2, hc, h⟩ := bd_some h
    refine Rc.call (Ev.mono d) (v := some (.int r2)) (as := [.ref 117]) (r := []) 7 rfl rfl rfl rfl ⟨rfl, Nat.le_of_ble_eq_true rfl⟩ (m_firm_117_ok (by omega) hc) ?_
    show Rc _ _ _ (22, [(2, .int 0), (0, .ref 117), (1, .int v1)], [.int r2], σ2) _
    obtain ⟨r3, σ3, hc, h⟩ := bd_some h
    refine Rc.call (Ev.mono d) (v := some (.int r3)) (as := [.int r2]) (r := []) 8 rfl rfl rfl rfl (Nat.le_of_ble_eq_true rfl) (m_bits_s_ok (by omega) hc) ?_
    show Rc _ _ _ (25, [(2, .int 0), (0, .ref 117), (1, .int v1)], [.int r3], σ3) _
    refine Rc.blk (c := []) (s2 := (29, [(4, .int 0), (3, .int r3), (2, .int 0), (0, .ref 117), (1, .int v1)], [], σ3)) 9 rfl rfl (trivial) ?_
    refine Rc.pick [3, 4, 2, 1, 0] (lv2 := [(0, .ref 117), (1, .int v1), (2, .int 0), (3, .int r3), (4, .int 0)]) rfl ?_
    exact m_odds_117_L29_ok hd fu _ _ _ _ _ _ _ h
theorem m_scale_117_b27_ok {d : Nat} (hd : 2 ≤ d) (σ : Sg) (r : Int32) (σ2 : Sg) (h : m_scale_117_b27 σ = some (r, σ2)) : Rc none (Ev MT CT d) sg170 (27, [(0, .ref 117)], [], σ) (fun v s => v = some (.int r) ∧ s = σ2) := by
  unfold m_scale_117_b27 at h
  refine Rc.blk (c := []) (s2 := (29, [(0, .ref 117)], [.int 4, .ref 117], σ)) 9 rfl rfl (trivial) ?_
  obtain ⟨r1, σ1, hc, h⟩ := bd_some h
  refine Rc.call (Ev.mono d) (v := some (.int r1)) (as := [.ref 117, .int 4]) (r := []) 10 rfl rfl rfl rfl ⟨rfl, Nat.le_of_ble_eq_true rfl⟩ (m_refuse_117_ok (by omega) hc) ?_
  show Rc _ _ _ (32, [(0, .ref 117)], [.int r1], σ1) _
  obtain ⟨rfl, rfl⟩ := some_pair h
  exact Rc.ret 11 rfl rfl rfl trivial ⟨rfl, rfl⟩
theorem m_scale_117_b49_ok {d : Nat} (hd : 2 ≤ d) (σ : Sg) (r : Int32) (σ2 : Sg) (h : m_scale_117_b49 σ = some (r, σ2)) : Rc none (Ev MT CT d) sg170 (49, [(0, .ref 117)], [], σ) (fun v s => v = some (.int r) ∧ s = σ2) := by
  unfold m_scale_117_b49 at h
  refine Rc.blk (c := []) (s2 := (52, [(0, .ref 117)], [.int 6, .ref 117], σ)) 15 rfl rfl (trivial) ?_
  obtain ⟨r1, σ1, hc, h⟩ := bd_some h
  refine Rc.call (Ev.mono d) (v := some (.int r1)) (as := [.ref 117, .int 6]) (r := []) 16 rfl rfl rfl rfl ⟨rfl, Nat.le_of_ble_eq_true rfl⟩ (m_refuse_117_ok (by omega) hc) ?_
  show Rc _ _ _ (55, [(0, .ref 117)], [.int r1], σ1) _
  obtain ⟨rfl, rfl⟩ := some_pair h
  exact Rc.ret 17 rfl rfl rfl trivial ⟨rfl, rfl⟩
theorem m_scale_117_b95_ok {d : Nat} (hd : 2 ≤ d) (s1 : Int32) (s2 : Int32) (σ : Sg) (r : Int32) (σ2 : Sg) (h : m_scale_117_b95 s1 s2 σ = some (r, σ2)) : Rc none (Ev MT CT d) sg170 (95, [], [.int s2, .int s1, .ref 118], σ) (fun v s => v = some (.int r) ∧ s = σ2) := by
  unfold m_scale_117_b95 at h
  obtain ⟨g1, h⟩ := gd_some h
  refine Rc.blk (c := [_]) (s2 := (97, [], [.int 1], si σ 118 s1.toNatClampNeg s2)) 23 rfl rfl (conj_c (⟨rfl, inB_in g1⟩) (trivial)) ?_
  obtain ⟨rfl, rfl⟩ := some_pair h
  exact Rc.ret 24 rfl rfl rfl trivial ⟨rfl, rfl⟩
theorem m_scale_117_b56_ok {d : Nat} (hd : 2 ≤ d) (v1 : Int32) (v2 : Int32) (v3 : Int32) (σ : Sg) (r : Int32) (σ2 : Sg) (h : m_scale_117_b56 v1 v2 v3 σ = some (r, σ2)) : Rc none (Ev MT CT d) sg170 (56, [(0, .ref 117), (1, .int v1), (2, .int v2), (3, .int v3)], [], σ) (fun v s => v = some (.int r) ∧ s = σ2) := by
  unfold m_scale_117_b56 at h
  refine Rc.blk (c := []) (s2 := (65, [(0, .ref 117), (1, .int v1), (2, .int v2), (3, .int v3)], [.int (57 + v1), .int (49 + v1), .ref 117], σ)) 18 rfl rfl (trivial) ?_
  obtain ⟨r1, σ1, hc, h⟩ := bd_some h
  refine Rc.call (Ev.mono d) (v := none) (as := [.ref 117, .int (49 + v1), .int (57 + v1)]) (r := []) 19 rfl rfl rfl rfl ⟨rfl, Nat.le_of_ble_eq_true rfl⟩ (m_changes_117_ok (by omega) hc) ?_
  show Rc _ _ _ (68, [(0, .ref 117), (1, .int v1), (2, .int v2), (3, .int v3)], [], σ1) _
  obtain ⟨g2, h⟩ := gd_some h
  refine Rc.blk (c := [_, _, _]) (s2 := (if ¬ v2 = 0 then 94 else 90, [(0, .ref 117), (1, .int v1), (2, .int v2), (3, .int v3)], [.int (57 + v1), .ref 118], si σ1 118 (49 + v1).toNatClampNeg v2)) 20 rfl rfl (conj_c (rfl) (conj_c (⟨rfl, inB_in g2⟩) (conj_c (rfl) (trivial)))) ?_
  by_cases c3 : v2 = 0
  · rw [if_pos c3] at h
    refine Rc.ifn (fun q => q c3) ?_
    refine Rc.blk (c := []) (s2 := (95, [(0, .ref 117), (1, .int v1), (2, .int v2), (3, .int v3)], [.int 0, .int (57 + v1), .ref 118], si σ1 118 (49 + v1).toNatClampNeg v2)) 21 rfl rfl (trivial) ?_
    refine Rc.pick [] (lv2 := []) rfl ?_
    exact m_scale_117_b95_ok hd _ _ _ _ _ h
  · rw [if_neg c3] at h
    refine Rc.ifp c3 ?_
    refine Rc.blk (c := []) (s2 := (95, [(0, .ref 117), (1, .int v1), (2, .int v2), (3, .int v3)], [.int v3, .int (57 + v1), .ref 118], si σ1 118 (49 + v1).toNatClampNeg v2)) 22 rfl rfl (trivial) ?_
    refine Rc.pick [] (lv2 := []) rfl ?_
    exact m_scale_117_b95_ok hd _ _ _ _ _ h
theorem m_scale_117_b33_ok {d : Nat} (hd : 2 ≤ d) (v1 : Int32) (v2 : Int32) (v3 : Int32) (σ : Sg) (r : Int32) (σ2 : Sg) (h : m_scale_117_b33 v1 v2 v3 σ = some (r, σ2)) : Rc none (Ev MT CT d) sg170 (33, [(0, .ref 117), (1, .int v1), (2, .int v2), (3, .int v3)], [], σ) (fun v s => v = some (.int r) ∧ s = σ2) := by
  unfold m_scale_117_b33 at h
  refine Rc.blk (c := []) (s2 := (if 99 < v2 then 49 else 39, [(0, .ref 117), (1, .int v1), (2, .int v2), (3, .int v3)], [], σ)) 12 rfl rfl (trivial) ?_
  by_cases c3 : 99 < v2
  · rw [if_pos c3] at h
    refine Rc.ifp c3 ?_
    refine Rc.pick [0] (lv2 := [(0, .ref 117)]) rfl ?_
    exact m_scale_117_b49_ok hd _ _ _ h
  · rw [if_neg c3] at h
    refine Rc.ifn c3 ?_
    refine Rc.blk (c := []) (s2 := (if v2 ≤ 0 then 56 else 43, [(0, .ref 117), (1, .int v1), (2, .int v2), (3, .int v3)], [], σ)) 13 rfl rfl (trivial) ?_
    by_cases c2 : v2 ≤ 0
    · rw [if_pos c2] at h
      refine Rc.ifp c2 ?_
      exact m_scale_117_b56_ok hd _ _ _ _ _ _ h
    · rw [if_neg c2] at h
      refine Rc.ifn c2 ?_
      refine Rc.blk (c := []) (s2 := (if v3 ≤ 99 then 56 else 49, [(0, .ref 117), (1, .int v1), (2, .int v2), (3, .int v3)], [], σ)) 14 rfl rfl (trivial) ?_
      by_cases c1 : v3 ≤ 99
      · rw [if_pos c1] at h
        refine Rc.ifp c1 ?_
        exact m_scale_117_b56_ok hd _ _ _ _ _ _ h
      · rw [if_neg c1] at h
        refine Rc.ifn c1 ?_
        refine Rc.pick [0] (lv2 := [(0, .ref 117)]) rfl ?_
        exact m_scale_117_b49_ok hd _ _ _ h
theorem m_scale_117_ok {d : Nat} (hd : 3 ≤ d) {v1 : Int32} {v2 : Int32} {v3 : Int32} {σ : Sg} {r : Int32} {σ2 : Sg} (h : m_scale_117 v1 v2 v3 σ = some (r, σ2)) : Ev MT CT d 170 [.ref 117, .int v1, .int v2, .int v3] σ (fun v s => v = some (.int r) ∧ s = σ2) := by
  obtain ⟨d, rfl⟩ : ∃ e, d = e + 1 := ⟨d - 1, by omega⟩
  refine ⟨Nat.le_of_ble_eq_true rfl, ?_⟩
  show Rc none (Ev MT CT d) sg170 (0, [(0, .ref 117), (1, .int v1), (2, .int v2), (3, .int v3)], [], σ) _
  unfold m_scale_117 at h
  have hd : 2 ≤ d := by omega
  refine Rc.blk (c := []) (s2 := (2, [(0, .ref 117), (1, .int v1), (2, .int v2), (3, .int v3)], [.int v1, .ref 117], σ)) 0 rfl rfl (trivial) ?_
  obtain ⟨r1, σ1, hc, h⟩ := bd_some h
  refine Rc.call (Ev.mono d) (v := some (.int r1)) (as := [.ref 117, .int v1]) (r := []) 1 rfl rfl rfl rfl ⟨rfl, Nat.le_of_ble_eq_true rfl⟩ (m_isOne_117_ok (by omega) hc) ?_
  show Rc _ _ _ (5, [(0, .ref 117), (1, .int v1), (2, .int v2), (3, .int v3)], [.int r1], σ1) _
  refine Rc.blk (c := []) (s2 := (if ¬ r1 = 0 then 14 else 8, [(0, .ref 117), (1, .int v1), (2, .int v2), (3, .int v3)], [], σ1)) 2 rfl rfl (trivial) ?_
  by_cases c6 : r1 = 0
  · rw [if_pos c6] at h
    refine Rc.ifn (fun q => q c6) ?_
    refine Rc.blk (c := []) (s2 := (10, [(0, .ref 117), (1, .int v1), (2, .int v2), (3, .int v3)], [.int 1, .ref 117], σ1)) 3 rfl rfl (trivial) ?_
    obtain ⟨r5, σ5, hc, h⟩ := bd_some h
    refine Rc.call (Ev.mono d) (v := some (.int r5)) (as := [.ref 117, .int 1]) (r := []) 4 rfl rfl rfl rfl ⟨rfl, Nat.le_of_ble_eq_true rfl⟩ (m_refuse_117_ok (by omega) hc) ?_
    show Rc _ _ _ (13, [(0, .ref 117), (1, .int v1), (2, .int v2), (3, .int v3)], [.int r5], σ5) _
    obtain ⟨rfl, rfl⟩ := some_pair h
    exact Rc.ret 5 rfl rfl rfl trivial ⟨rfl, rfl⟩
  · rw [if_neg c6] at h
    refine Rc.ifp c6 ?_
    refine Rc.blk (c := []) (s2 := (if v2 < 0 then 27 else 18, [(0, .ref 117), (1, .int v1), (2, .int v2), (3, .int v3)], [], σ1)) 6 rfl rfl (trivial) ?_
    by_cases c4 : v2 < 0
    · rw [if_pos c4] at h
      refine Rc.ifp c4 ?_
      refine Rc.pick [0] (lv2 := [(0, .ref 117)]) rfl ?_
      exact m_scale_117_b27_ok hd _ _ _ h
    · rw [if_neg c4] at h
      refine Rc.ifn c4 ?_
      refine Rc.blk (c := []) (s2 := (if v2 ≤ 0 then 33 else 22, [(0, .ref 117), (1, .int v1), (2, .int v2), (3, .int v3)], [], σ1)) 7 rfl rfl (trivial) ?_
      by_cases c3 : v2 ≤ 0
      · rw [if_pos c3] at h
        refine Rc.ifp c3 ?_
        exact m_scale_117_b33_ok hd _ _ _ _ _ _ h
      · rw [if_neg c3] at h
        refine Rc.ifn c3 ?_
        refine Rc.blk (c := []) (s2 := (if 1 ≤ v3 then 33 else 27, [(0, .ref 117), (1, .int v1), (2, .int v2), (3, .int v3)], [], σ1)) 8 rfl rfl (trivial) ?_
        by_cases c2 : 1 ≤ v3
        · rw [if_pos c2] at h
          refine Rc.ifp c2 ?_
          exact m_scale_117_b33_ok hd _ _ _ _ _ _ h
        · rw [if_neg c2] at h
          refine Rc.ifn c2 ?_
          refine Rc.pick [0] (lv2 := [(0, .ref 117)]) rfl ?_
          exact m_scale_117_b27_ok hd _ _ _ h
theorem m_scaled_117_b72_ok {d : Nat} (hd : 2 ≤ d) (s0 : Int32) (σ : Sg) (r : Int32) (σ2 : Sg) (h : m_scaled_117_b72 s0 σ = some (r, σ2)) : Rc none (Ev MT CT d) sg171 (72, [], [.int s0], σ) (fun v s => v = some (.int r) ∧ s = σ2) := by
  unfold m_scaled_117_b72 at h
  obtain ⟨rfl, rfl⟩ := some_pair h
  exact Rc.ret 17 rfl rfl rfl trivial ⟨rfl, rfl⟩
theorem m_scaled_117_ok {d : Nat} (hd : 3 ≤ d) {v1 : Int32} {v2 : Int32} {σ : Sg} {r : Int32} {σ2 : Sg} (h : m_scaled_117 v1 v2 σ = some (r, σ2)) : Ev MT CT d 171 [.ref 117, .int v1, .int v2] σ (fun v s => v = some (.int r) ∧ s = σ2) := by
  obtain ⟨d, rfl⟩ : ∃ e, d = e + 1 := ⟨d - 1, by omega⟩
  refine ⟨Nat.le_of_ble_eq_true rfl, ?_⟩
  show Rc none (Ev MT CT d) sg171 (0, [(0, .ref 117), (1, .int v1), (2, .int v2)], [], σ) _
  unfold m_scaled_117 at h
  have hd : 2 ≤ d := by omega
  refine Rc.blk (c := []) (s2 := (2, [(0, .ref 117), (1, .int v1), (2, .int v2)], [.int v1, .ref 117], σ)) 0 rfl rfl (trivial) ?_
  obtain ⟨r1, σ1, hc, h⟩ := bd_some h
  refine Rc.call (Ev.mono d) (v := some (.int r1)) (as := [.ref 117, .int v1]) (r := []) 1 rfl rfl rfl rfl ⟨rfl, Nat.le_of_ble_eq_true rfl⟩ (m_isOne_117_ok (by omega) hc) ?_
  show Rc _ _ _ (5, [(0, .ref 117), (1, .int v1), (2, .int v2)], [.int r1], σ1) _
  refine Rc.blk (c := []) (s2 := (if ¬ r1 = 0 then 14 else 8, [(0, .ref 117), (1, .int v1), (2, .int v2)], [], σ1)) 2 rfl rfl (trivial) ?_
  by_cases c11 : r1 = 0
  · rw [if_pos c11] at h
    refine Rc.ifn (fun q => q c11) ?_
    refine Rc.blk (c := []) (s2 := (10, [(0, .ref 117), (1, .int v1), (2, .int v2)], [.int 1, .ref 117], σ1)) 3 rfl rfl (trivial) ?_
    obtain ⟨r10, σ10, hc, h⟩ := bd_some h
    refine Rc.call (Ev.mono d) (v := some (.int r10)) (as := [.ref 117, .int 1]) (r := []) 4 rfl rfl rfl rfl ⟨rfl, Nat.le_of_ble_eq_true rfl⟩ (m_refuse_117_ok (by omega) hc) ?_
    show Rc _ _ _ (13, [(0, .ref 117), (1, .int v1), (2, .int v2)], [.int r10], σ10) _
    obtain ⟨rfl, rfl⟩ := some_pair h
    exact Rc.ret 5 rfl rfl rfl trivial ⟨rfl, rfl⟩
  · rw [if_neg c11] at h
    refine Rc.ifp c11 ?_
    refine Rc.blk (c := []) (s2 := (18, [(0, .ref 117), (1, .int v1), (2, .int v2)], [.long 1, .long 0, .long v2.toInt64], σ1)) 6 rfl rfl (trivial) ?_
    obtain ⟨r2, σ2, hc, h⟩ := bd_some h
    refine Rc.call (Ev.mono d) (v := some (.int r2)) (as := [.long v2.toInt64, .long 0, .long 1]) (r := []) 7 rfl rfl rfl rfl (Nat.le_of_ble_eq_true rfl) (m_isIn_s_ok (by omega) hc) ?_
    show Rc _ _ _ (21, [(0, .ref 117), (1, .int v1), (2, .int v2)], [.int r2], σ2) _
    refine Rc.blk (c := []) (s2 := (if ¬ r2 = 0 then 30 else 24, [(0, .ref 117), (1, .int v1), (2, .int v2)], [], σ2)) 8 rfl rfl (trivial) ?_
    by_cases c9 : r2 = 0
    · rw [if_pos c9] at h
      refine Rc.ifn (fun q => q c9) ?_
      refine Rc.blk (c := []) (s2 := (26, [(0, .ref 117), (1, .int v1), (2, .int v2)], [.int 2, .ref 117], σ2)) 9 rfl rfl (trivial) ?_
      obtain ⟨r8, σ8, hc, h⟩ := bd_some h
      refine Rc.call (Ev.mono d) (v := some (.int r8)) (as := [.ref 117, .int 2]) (r := []) 10 rfl rfl rfl rfl ⟨rfl, Nat.le_of_ble_eq_true rfl⟩ (m_refuse_117_ok (by omega) hc) ?_
      show Rc _ _ _ (29, [(0, .ref 117), (1, .int v1), (2, .int v2)], [.int r8], σ8) _
      obtain ⟨rfl, rfl⟩ := some_pair h
      exact Rc.ret 11 rfl rfl rfl trivial ⟨rfl, rfl⟩
    · rw [if_neg c9] at h
      refine Rc.ifp c9 ?_
      obtain ⟨g3, h⟩ := gd_some h
      refine Rc.blk (c := [_, _]) (s2 := (if ¬ (σ2.1 118 (49 + v1).toNatClampNeg) = 0 then 47 else 42, [(0, .ref 117), (1, .int v1), (2, .int v2)], [], σ2)) 12 rfl rfl (conj_c (rfl) (conj_c (⟨rfl, inB_in g3⟩) (trivial))) ?_
      by_cases c7 : (σ2.1 118 (49 + v1).toNatClampNeg) = 0
      · rw [if_pos c7] at h
        refine Rc.ifn (fun q => q c7) ?_
        refine Rc.blk (c := []) (s2 := (72, [(0, .ref 117), (1, .int v1), (2, .int v2)], [.int (-9)], σ2)) 13 rfl rfl (trivial) ?_
        refine Rc.pick [] (lv2 := []) rfl ?_
        exact m_scaled_117_b72_ok hd _ _ _ _ h
      · rw [if_neg c7] at h
        refine Rc.ifp c7 ?_
        obtain ⟨g4, h⟩ := gd_some h
        obtain ⟨g5, h⟩ := gd_some h
        refine Rc.blk (c := [_, _, _, _]) (s2 := (68, [(0, .ref 117), (1, .int v1), (2, .int v2)], [.int v2, .long ((σ2.1 118 (57 + v1).toNatClampNeg).toInt64), .long ((σ2.1 118 (49 + v1).toNatClampNeg).toInt64)], σ2)) 14 rfl rfl (conj_c (rfl) (conj_c (⟨rfl, inB_in g4⟩) (conj_c (rfl) (conj_c (⟨rfl, inB_in g5⟩) (trivial))))) ?_
        obtain ⟨r6, σ6, hc, h⟩ := bd_some h
        refine Rc.call (Ev.mono d) (v := some (.long r6)) (as := [.long ((σ2.1 118 (49 + v1).toNatClampNeg).toInt64), .long ((σ2.1 118 (57 + v1).toNatClampNeg).toInt64), .int v2]) (r := []) 15 rfl rfl rfl rfl (Nat.le_of_ble_eq_true rfl) (m_partOf_s_ok (by omega) hc) ?_
        show Rc _ _ _ (71, [(0, .ref 117), (1, .int v1), (2, .int v2)], [.long r6], σ6) _
        refine Rc.blk (c := []) (s2 := (72, [(0, .ref 117), (1, .int v1), (2, .int v2)], [.int r6.toInt32], σ6)) 16 rfl rfl (trivial) ?_
        refine Rc.pick [] (lv2 := []) rfl ?_
        exact m_scaled_117_b72_ok hd _ _ _ _ h
theorem m_areScaled_117_b43_ok {d : Nat} (hd : 0 ≤ d) {k4 : Int32 → Int32 → Sg → Option (Int32 × Sg)} (hk4 : ∀ (v1 : Int32) (v2 : Int32) (σ : Sg) (r : Int32) (σ2 : Sg), k4 v1 v2 σ = some (r, σ2) → Rc none (Ev MT CT d) sg176 (4, [(0, .ref 117), (1, .int v1), (2, .int v2)], [], σ) (fun v s => v = some (.int r) ∧ s = σ2)) (v2 : Int32) (s0 : Int32) (s1 : Int32) (σ : Sg) (r : Int32) (σ2 : Sg) (h : m_areScaled_117_b43 k4 v2 s0 s1 σ = some (r, σ2)) : Rc none (Ev MT CT d) sg176 (43, [(0, .ref 117), (2, .int v2)], [.int s1, .int s0], σ) (fun v s => v = some (.int r) ∧ s = σ2) := by
  unfold m_areScaled_117_b43 at h
  refine Rc.blk (c := []) (s2 := (4, [(2, .int (v2 + 1)), (1, .int (s0 &&& s1)), (0, .ref 117)], [], σ)) 6 rfl rfl (trivial) ?_
  refine Rc.pick [2, 1, 0] (lv2 := [(0, .ref 117), (1, .int (s0 &&& s1)), (2, .int (v2 + 1))]) rfl ?_
  exact hk4 _ _ _ _ _ h
theorem m_areScaled_117_b38_ok {d : Nat} (hd : 0 ≤ d) {k4 : Int32 → Int32 → Sg → Option (Int32 × Sg)} (hk4 : ∀ (v1 : Int32) (v2 : Int32) (σ : Sg) (r : Int32) (σ2 : Sg), k4 v1 v2 σ = some (r, σ2) → Rc none (Ev MT CT d) sg176 (4, [(0, .ref 117), (1, .int v1), (2, .int v2)], [], σ) (fun v s => v = some (.int r) ∧ s = σ2)) (v2 : Int32) (s0 : Int32) (σ : Sg) (r : Int32) (σ2 : Sg) (h : m_areScaled_117_b38 k4 v2 s0 σ = some (r, σ2)) : Rc none (Ev MT CT d) sg176 (38, [(0, .ref 117), (2, .int v2)], [.int s0], σ) (fun v s => v = some (.int r) ∧ s = σ2) := by
  unfold m_areScaled_117_b38 at h
  refine Rc.blk (c := []) (s2 := (43, [(0, .ref 117), (2, .int v2)], [.int 1, .int s0], σ)) 4 rfl rfl (trivial) ?_
  exact m_areScaled_117_b43_ok hd hk4 _ _ _ _ _ _ h
theorem m_areScaled_117_H4_ok {d : Nat} (hd : 0 ≤ d) {k4 : Int32 → Int32 → Sg → Option (Int32 × Sg)} (hk4 : ∀ (v1 : Int32) (v2 : Int32) (σ : Sg) (r : Int32) (σ2 : Sg), k4 v1 v2 σ = some (r, σ2) → Rc none (Ev MT CT d) sg176 (4, [(0, .ref 117), (1, .int v1), (2, .int v2)], [], σ) (fun v s => v = some (.int r) ∧ s = σ2)) (v1 : Int32) (v2 : Int32) (σ : Sg) (r : Int32) (σ2 : Sg) (h : m_areScaled_117_H4 k4 v1 v2 σ = some (r, σ2)) : Rc none (Ev MT CT d) sg176 (4, [(0, .ref 117), (1, .int v1), (2, .int v2)], [], σ) (fun v s => v = some (.int r) ∧ s = σ2) := by
  unfold m_areScaled_117_H4 at h
  refine Rc.blk (c := [_, _]) (s2 := (if (σ.1 118 0) ≤ v2 then 51 else 14, [(0, .ref 117), (1, .int v1), (2, .int v2)], [], σ)) 1 rfl rfl (conj_c (rfl) (conj_c (⟨rfl, inB_in (by decide)⟩) (trivial))) ?_
  by_cases c5 : (σ.1 118 0) ≤ v2
  · rw [if_pos c5] at h
    refine Rc.ifp c5 ?_
    refine Rc.blk (c := []) (s2 := (52, [(0, .ref 117), (1, .int v1), (2, .int v2)], [.int v1], σ)) 7 rfl rfl (trivial) ?_
    obtain ⟨g, h⟩ := gd_some h
    obtain ⟨rfl, rfl⟩ := some_pair h
    exact Rc.ret 8 rfl rfl rfl (nbB_ok g) ⟨rfl, rfl⟩
  · rw [if_neg c5] at h
    refine Rc.ifn c5 ?_
    obtain ⟨g1, h⟩ := gd_some h
    refine Rc.blk (c := [_, _]) (s2 := (if (lg_cmp (σ.2 124 v2.toNatClampNeg) 0) = 0 then 38 else 26, [(0, .ref 117), (1, .int v1), (2, .int v2)], [.int v1], σ)) 2 rfl rfl (conj_c (rfl) (conj_c (⟨rfl, inB_in g1⟩) (trivial))) ?_
    by_cases c4 : (lg_cmp (σ.2 124 v2.toNatClampNeg) 0) = 0
    · rw [if_pos c4] at h
      refine Rc.ifp c4 ?_
      refine Rc.pick [0, 2] (lv2 := [(0, .ref 117), (2, .int v2)]) rfl ?_
      exact m_areScaled_117_b38_ok hd hk4 _ _ _ _ _ h
    · rw [if_neg c4] at h
      refine Rc.ifn c4 ?_
      obtain ⟨g2, h⟩ := gd_some h
      refine Rc.blk (c := [_, _]) (s2 := (if (σ.1 118 (49 + v2).toNatClampNeg) ≤ 0 then 42 else 38, [(0, .ref 117), (1, .int v1), (2, .int v2)], [.int v1], σ)) 3 rfl rfl (conj_c (rfl) (conj_c (⟨rfl, inB_in g2⟩) (trivial))) ?_
      by_cases c3 : (σ.1 118 (49 + v2).toNatClampNeg) ≤ 0
      · rw [if_pos c3] at h
        refine Rc.ifp c3 ?_
        refine Rc.blk (c := []) (s2 := (43, [(0, .ref 117), (1, .int v1), (2, .int v2)], [.int 0, .int v1], σ)) 5 rfl rfl (trivial) ?_
        refine Rc.pick [0, 2] (lv2 := [(0, .ref 117), (2, .int v2)]) rfl ?_
        exact m_areScaled_117_b43_ok hd hk4 _ _ _ _ _ _ h
      · rw [if_neg c3] at h
        refine Rc.ifn c3 ?_
        refine Rc.pick [0, 2] (lv2 := [(0, .ref 117), (2, .int v2)]) rfl ?_
        exact m_areScaled_117_b38_ok hd hk4 _ _ _ _ _ h
theorem m_areScaled_117_L4_ok {d : Nat} (hd : 0 ≤ d) : ∀ (n : Nat) (v1 : Int32) (v2 : Int32) (σ : Sg) (r : Int32) (σ2 : Sg), m_areScaled_117_L4 n v1 v2 σ = some (r, σ2) → Rc none (Ev MT CT d) sg176 (4, [(0, .ref 117), (1, .int v1), (2, .int v2)], [], σ) (fun v s => v = some (.int r) ∧ s = σ2)
  | 0, _, _, _, _, _, h => by cases h
  | n + 1, v1, v2, σ, r, σ2, h => m_areScaled_117_H4_ok hd (m_areScaled_117_L4_ok hd n) v1 v2 σ r σ2 h
theorem m_areScaled_117_ok {d : Nat} (hd : 1 ≤ d) {σ : Sg} {r : Int32} {σ2 : Sg} (h : m_areScaled_117 σ = some (r, σ2)) : Ev MT CT d 176 [.ref 117] σ (fun v s => v = some (.int r) ∧ s = σ2) := by
  obtain ⟨d, rfl⟩ : ∃ e, d = e + 1 := ⟨d - 1, by omega⟩
  refine ⟨Nat.le_of_ble_eq_true rfl, ?_⟩
  show Rc none (Ev MT CT d) sg176 (0, [(0, .ref 117)], [], σ) _
  unfold m_areScaled_117 at h
  have hd : 0 ≤ d := by omega
  refine Rc.blk (c := []) (s2 := (4, [(2, .int 0), (1, .int 1), (0, .ref 117)], [], σ)) 0 rfl rfl (trivial) ?_
  refine Rc.pick [2, 1, 0] (lv2 := [(0, .ref 117), (1, .int 1), (2, .int 0)]) rfl ?_
  exact m_areScaled_117_L4_ok hd fu _ _ _ _ _ h
theorem m_isPrime_s_H2_ok {d : Nat} (hd : 1 ≤ d) {k2 : Int32 → Int32 → Sg → Option (Int32 × Sg)} (hk2 : ∀ (v0 : Int32) (v1 : Int32) (σ : Sg) (r : Int32) (σ2 : Sg), k2 v0 v1 σ = some (r, σ2) → Rc none (Ev MT CT d) sg172 (2, [(0, .int v0), (1, .int v1)], [], σ) (fun v s => v = some (.int r) ∧ s = σ2)) (v0 : Int32) (v1 : Int32) (σ : Sg) (r : Int32) (σ2 : Sg) (h : m_isPrime_s_H2 k2 v0 v1 σ = some (r, σ2)) : Rc none (Ev MT CT d) sg172 (2, [(0, .int v0), (1, .int v1)], [], σ) (fun v s => v = some (.int r) ∧ s = σ2) := by
  unfold m_isPrime_s_H2 at h
  refine Rc.blk (c := []) (s2 := (if v0 ≤ v1 then 21 else 7, [(0, .int v0), (1, .int v1)], [], σ)) 1 rfl rfl (trivial) ?_
  by_cases c4 : v0 ≤ v1
  · rw [if_pos c4] at h
    refine Rc.ifp c4 ?_
    refine Rc.blk (c := []) (s2 := (29, [(0, .int v0), (1, .int v1)], [.long 97, .long 2, .long v0.toInt64], σ)) 6 rfl rfl (trivial) ?_
    obtain ⟨r1, σ1, hc, h⟩ := bd_some h
    refine Rc.call (Ev.mono d) (v := some (.int r1)) (as := [.long v0.toInt64, .long 2, .long 97]) (r := []) 7 rfl rfl rfl rfl (Nat.le_of_ble_eq_true rfl) (m_isIn_s_ok (by omega) hc) ?_
    show Rc _ _ _ (32, [(0, .int v0), (1, .int v1)], [.int r1], σ1) _
    obtain ⟨g, h⟩ := gd_some h
    obtain ⟨rfl, rfl⟩ := some_pair h
    exact Rc.ret 8 rfl rfl rfl (nbB_ok g) ⟨rfl, rfl⟩
  · rw [if_neg c4] at h
    refine Rc.ifn c4 ?_
    obtain ⟨g2, h⟩ := gd_some h
    refine Rc.blk (c := [_]) (s2 := (if ¬ (irm v0 v1) = 0 then 15 else 13, [(0, .int v0), (1, .int v1)], [], σ)) 2 rfl rfl (conj_c (neB_ne g2) (trivial)) ?_
    by_cases c3 : (irm v0 v1) = 0
    · rw [if_pos c3] at h
      refine Rc.ifn (fun q => q c3) ?_
      refine Rc.blk (c := []) (s2 := (14, [(0, .int v0), (1, .int v1)], [.int 0], σ)) 3 rfl rfl (trivial) ?_
      obtain ⟨rfl, rfl⟩ := some_pair h
      exact Rc.ret 4 rfl rfl rfl (Or.inl rfl) ⟨rfl, rfl⟩
    · rw [if_neg c3] at h
      refine Rc.ifp c3 ?_
      refine Rc.blk (c := []) (s2 := (2, [(1, .int (v1 + 1)), (0, .int v0)], [], σ)) 5 rfl rfl (trivial) ?_
      refine Rc.pick [1, 0] (lv2 := [(0, .int v0), (1, .int (v1 + 1))]) rfl ?_
      exact hk2 _ _ _ _ _ h
theorem m_isPrime_s_L2_ok {d : Nat} (hd : 1 ≤ d) : ∀ (n : Nat) (v0 : Int32) (v1 : Int32) (σ : Sg) (r : Int32) (σ2 : Sg), m_isPrime_s_L2 n v0 v1 σ = some (r, σ2) → Rc none (Ev MT CT d) sg172 (2, [(0, .int v0), (1, .int v1)], [], σ) (fun v s => v = some (.int r) ∧ s = σ2)
  | 0, _, _, _, _, _, h => by cases h
  | n + 1, v0, v1, σ, r, σ2, h => m_isPrime_s_H2_ok hd (m_isPrime_s_L2_ok hd n) v0 v1 σ r σ2 h
theorem m_isPrime_s_ok {d : Nat} (hd : 2 ≤ d) {v0 : Int32} {σ : Sg} {r : Int32} {σ2 : Sg} (h : m_isPrime_s v0 σ = some (r, σ2)) : Ev MT CT d 172 [.int v0] σ (fun v s => v = some (.int r) ∧ s = σ2) := by
  obtain ⟨d, rfl⟩ : ∃ e, d = e + 1 := ⟨d - 1, by omega⟩
  refine ⟨Nat.le_of_ble_eq_true rfl, ?_⟩
  show Rc none (Ev MT CT d) sg172 (0, [(0, .int v0)], [], σ) _
  unfold m_isPrime_s at h
  have hd : 1 ≤ d := by omega
  refine Rc.blk (c := []) (s2 := (2, [(1, .int 2), (0, .int v0)], [], σ)) 0 rfl rfl (trivial) ?_
  refine Rc.pick [1, 0] (lv2 := [(0, .int v0), (1, .int 2)]) rfl ?_
  exact m_isPrime_s_L2_ok hd fu _ _ _ _ _ h
theorem m_often_s_b24_ok {d : Nat} (hd : 0 ≤ d) (v2 : Int32) (σ : Sg) (r : Int32) (σ2 : Sg) (h : m_often_s_b24 v2 σ = some (r, σ2)) : Rc none (Ev MT CT d) sg173 (24, [(2, .int v2)], [], σ) (fun v s => v = some (.int r) ∧ s = σ2) := by
  unfold m_often_s_b24 at h
  refine Rc.blk (c := []) (s2 := (25, [(2, .int v2)], [.int v2], σ)) 4 rfl rfl (trivial) ?_
  obtain ⟨rfl, rfl⟩ := some_pair h
  exact Rc.ret 5 rfl rfl rfl trivial ⟨rfl, rfl⟩
theorem m_often_s_H4_ok {d : Nat} (hd : 0 ≤ d) {k4 : Int32 → Int32 → Int32 → Sg → Option (Int32 × Sg)} (hk4 : ∀ (v1 : Int32) (v2 : Int32) (v3 : Int32) (σ : Sg) (r : Int32) (σ2 : Sg), k4 v1 v2 v3 σ = some (r, σ2) → Rc none (Ev MT CT d) sg173 (4, [(1, .int v1), (2, .int v2), (3, .int v3)], [], σ) (fun v s => v = some (.int r) ∧ s = σ2)) (v1 : Int32) (v2 : Int32) (v3 : Int32) (σ : Sg) (r : Int32) (σ2 : Sg) (h : m_often_s_H4 k4 v1 v2 v3 σ = some (r, σ2)) : Rc none (Ev MT CT d) sg173 (4, [(1, .int v1), (2, .int v2), (3, .int v3)], [], σ) (fun v s => v = some (.int r) ∧ s = σ2) := by
  unfold m_often_s_H4 at h
  refine Rc.blk (c := []) (s2 := (if v3 ≤ 0 then 24 else 8, [(1, .int v1), (2, .int v2), (3, .int v3)], [], σ)) 1 rfl rfl (trivial) ?_
  by_cases c4 : v3 ≤ 0
  · rw [if_pos c4] at h
    refine Rc.ifp c4 ?_
    refine Rc.pick [1] (lv2 := [(2, .int v2)]) rfl ?_
    exact m_often_s_b24_ok hd _ _ _ _ h
  · rw [if_neg c4] at h
    refine Rc.ifn c4 ?_
    obtain ⟨g1, h⟩ := gd_some h
    refine Rc.blk (c := [_]) (s2 := (if ¬ (irm v3 v1) = 0 then 24 else 14, [(1, .int v1), (2, .int v2), (3, .int v3)], [], σ)) 2 rfl rfl (conj_c (neB_ne g1) (trivial)) ?_
    by_cases c3 : (irm v3 v1) = 0
    · rw [if_pos c3] at h
      refine Rc.ifn (fun q => q c3) ?_
      obtain ⟨g2, h⟩ := gd_some h
      refine Rc.blk (c := [_]) (s2 := (4, [(3, .int (v3 / v1)), (2, .int (v2 + 1)), (1, .int v1)], [], σ)) 3 rfl rfl (conj_c (neB_ne g2) (trivial)) ?_
      refine Rc.pick [2, 1, 0] (lv2 := [(1, .int v1), (2, .int (v2 + 1)), (3, .int (v3 / v1))]) rfl ?_
      exact hk4 _ _ _ _ _ _ h
    · rw [if_neg c3] at h
      refine Rc.ifp c3 ?_
      refine Rc.pick [1] (lv2 := [(2, .int v2)]) rfl ?_
      exact m_often_s_b24_ok hd _ _ _ _ h
theorem m_often_s_L4_ok {d : Nat} (hd : 0 ≤ d) : ∀ (n : Nat) (v1 : Int32) (v2 : Int32) (v3 : Int32) (σ : Sg) (r : Int32) (σ2 : Sg), m_often_s_L4 n v1 v2 v3 σ = some (r, σ2) → Rc none (Ev MT CT d) sg173 (4, [(1, .int v1), (2, .int v2), (3, .int v3)], [], σ) (fun v s => v = some (.int r) ∧ s = σ2)
  | 0, _, _, _, _, _, _, h => by cases h
  | n + 1, v1, v2, v3, σ, r, σ2, h => m_often_s_H4_ok hd (m_often_s_L4_ok hd n) v1 v2 v3 σ r σ2 h
theorem m_often_s_ok {d : Nat} (hd : 1 ≤ d) {v0 : Int32} {v1 : Int32} {σ : Sg} {r : Int32} {σ2 : Sg} (h : m_often_s v0 v1 σ = some (r, σ2)) : Ev MT CT d 173 [.int v0, .int v1] σ (fun v s => v = some (.int r) ∧ s = σ2) := by
  obtain ⟨d, rfl⟩ : ∃ e, d = e + 1 := ⟨d - 1, by omega⟩
  refine ⟨Nat.le_of_ble_eq_true rfl, ?_⟩
  show Rc none (Ev MT CT d) sg173 (0, [(0, .int v0), (1, .int v1)], [], σ) _
  unfold m_often_s at h
  have hd : 0 ≤ d := by omega
  refine Rc.blk (c := []) (s2 := (4, [(3, .int v0), (2, .int 0), (0, .int v0), (1, .int v1)], [], σ)) 0 rfl rfl (trivial) ?_
  refine Rc.pick [3, 1, 0] (lv2 := [(1, .int v1), (2, .int 0), (3, .int v0)]) rfl ?_
  exact m_often_s_L4_ok hd fu _ _ _ _ _ _ h
theorem m_powerIn_117_ok {d : Nat} (hd : 2 ≤ d) {v1 : Int32} {v2 : Int32} {σ : Sg} {r : Int32} {σ2 : Sg} (h : m_powerIn_117 v1 v2 σ = some (r, σ2)) : Ev MT CT d 174 [.ref 117, .int v1, .int v2] σ (fun v s => v = some (.int r) ∧ s = σ2) := by
  obtain ⟨d, rfl⟩ : ∃ e, d = e + 1 := ⟨d - 1, by omega⟩
  refine ⟨Nat.le_of_ble_eq_true rfl, ?_⟩
  show Rc none (Ev MT CT d) sg174 (0, [(0, .ref 117), (1, .int v1), (2, .int v2)], [], σ) _
  unfold m_powerIn_117 at h
  have hd : 1 ≤ d := by omega
  obtain ⟨g1, h⟩ := gd_some h
  refine Rc.blk (c := [_, _]) (s2 := (10, [(0, .ref 117), (1, .int v1), (2, .int v2)], [.int v2, .int (σ.1 118 (49 + v1).toNatClampNeg)], σ)) 0 rfl rfl (conj_c (rfl) (conj_c (⟨rfl, inB_in g1⟩) (trivial))) ?_
  obtain ⟨r2, σ2, hc, h⟩ := bd_some h
  refine Rc.call (Ev.mono d) (v := some (.int r2)) (as := [.int (σ.1 118 (49 + v1).toNatClampNeg), .int v2]) (r := []) 1 rfl rfl rfl rfl (Nat.le_of_ble_eq_true rfl) (m_often_s_ok (by omega) hc) ?_
  show Rc _ _ _ (13, [(0, .ref 117), (1, .int v1), (2, .int v2)], [.int r2], σ2) _
  obtain ⟨g3, h⟩ := gd_some h
  refine Rc.blk (c := [_, _]) (s2 := (23, [(0, .ref 117), (1, .int v1), (2, .int v2)], [.int v2, .int (σ2.1 118 (57 + v1).toNatClampNeg), .int r2], σ2)) 2 rfl rfl (conj_c (rfl) (conj_c (⟨rfl, inB_in g3⟩) (trivial))) ?_
  obtain ⟨r4, σ4, hc, h⟩ := bd_some h
  refine Rc.call (Ev.mono d) (v := some (.int r4)) (as := [.int (σ2.1 118 (57 + v1).toNatClampNeg), .int v2]) (r := [.int r2]) 3 rfl rfl rfl rfl (Nat.le_of_ble_eq_true rfl) (m_often_s_ok (by omega) hc) ?_
  show Rc _ _ _ (26, [(0, .ref 117), (1, .int v1), (2, .int v2)], [.int r4, .int r2], σ4) _
  refine Rc.blk (c := []) (s2 := (27, [(0, .ref 117), (1, .int v1), (2, .int v2)], [.int (r2 - r4)], σ4)) 4 rfl rfl (trivial) ?_
  obtain ⟨rfl, rfl⟩ := some_pair h
  exact Rc.ret 5 rfl rfl rfl trivial ⟨rfl, rfl⟩
theorem m_weighs_117_b55_ok {d : Nat} (hd : 2 ≤ d) {k5 : Int32 → Int32 → Int64 → Int32 → Sg → Option (Int64 × Sg)} (hk5 : ∀ (v1 : Int32) (v2 : Int32) (v3 : Int64) (v5 : Int32) (σ : Sg) (r : Int64) (σ2 : Sg), k5 v1 v2 v3 v5 σ = some (r, σ2) → Rc none (Ev MT CT d) sg175 (5, [(0, .ref 117), (1, .int v1), (2, .int v2), (3, .long v3), (5, .int v5)], [], σ) (fun v s => v = some (.long r) ∧ s = σ2)) (v1 : Int32) (v2 : Int32) (v5 : Int32) (s0 : Int64) (s1 : Int64) (σ : Sg) (r : Int64) (σ2 : Sg) (h : m_weighs_117_b55 k5 v1 v2 v5 s0 s1 σ = some (r, σ2)) : Rc none (Ev MT CT d) sg175 (55, [(0, .ref 117), (1, .int v1), (2, .int v2), (5, .int v5)], [.long s1, .long s0], σ) (fun v s => v = some (.long r) ∧ s = σ2) := by
  unfold m_weighs_117_b55 at h
  refine Rc.blk (c := []) (s2 := (5, [(5, .int (v5 + 1)), (3, .long (s0 + s1)), (0, .ref 117), (1, .int v1), (2, .int v2)], [], σ)) 8 rfl rfl (trivial) ?_
  refine Rc.pick [2, 3, 4, 1, 0] (lv2 := [(0, .ref 117), (1, .int v1), (2, .int v2), (3, .long (s0 + s1)), (5, .int (v5 + 1))]) rfl ?_
  exact hk5 _ _ _ _ _ _ _ h
theorem m_weighs_117_b54_ok {d : Nat} (hd : 2 ≤ d) {k5 : Int32 → Int32 → Int64 → Int32 → Sg → Option (Int64 × Sg)} (hk5 : ∀ (v1 : Int32) (v2 : Int32) (v3 : Int64) (v5 : Int32) (σ : Sg) (r : Int64) (σ2 : Sg), k5 v1 v2 v3 v5 σ = some (r, σ2) → Rc none (Ev MT CT d) sg175 (5, [(0, .ref 117), (1, .int v1), (2, .int v2), (3, .long v3), (5, .int v5)], [], σ) (fun v s => v = some (.long r) ∧ s = σ2)) (v1 : Int32) (v2 : Int32) (v5 : Int32) (s0 : Int64) (σ : Sg) (r : Int64) (σ2 : Sg) (h : m_weighs_117_b54 k5 v1 v2 v5 s0 σ = some (r, σ2)) : Rc none (Ev MT CT d) sg175 (54, [(0, .ref 117), (1, .int v1), (2, .int v2), (5, .int v5)], [.long s0], σ) (fun v s => v = some (.long r) ∧ s = σ2) := by
  unfold m_weighs_117_b54 at h
  refine Rc.blk (c := []) (s2 := (55, [(0, .ref 117), (1, .int v1), (2, .int v2), (5, .int v5)], [.long 0, .long s0], σ)) 7 rfl rfl (trivial) ?_
  exact m_weighs_117_b55_ok hd hk5 _ _ _ _ _ _ _ _ h
theorem m_weighs_117_H5_ok {d : Nat} (hd : 2 ≤ d) {k5 : Int32 → Int32 → Int64 → Int32 → Sg → Option (Int64 × Sg)} (hk5 : ∀ (v1 : Int32) (v2 : Int32) (v3 : Int64) (v5 : Int32) (σ : Sg) (r : Int64) (σ2 : Sg), k5 v1 v2 v3 v5 σ = some (r, σ2) → Rc none (Ev MT CT d) sg175 (5, [(0, .ref 117), (1, .int v1), (2, .int v2), (3, .long v3), (5, .int v5)], [], σ) (fun v s => v = some (.long r) ∧ s = σ2)) (v1 : Int32) (v2 : Int32) (v3 : Int64) (v5 : Int32) (σ : Sg) (r : Int64) (σ2 : Sg) (h : m_weighs_117_H5 k5 v1 v2 v3 v5 σ = some (r, σ2)) : Rc none (Ev MT CT d) sg175 (5, [(0, .ref 117), (1, .int v1), (2, .int v2), (3, .long v3), (5, .int v5)], [], σ) (fun v s => v = some (.long r) ∧ s = σ2) := by
  unfold m_weighs_117_H5 at h
  refine Rc.blk (c := [_, _]) (s2 := (if (σ.1 118 0) ≤ v5 then 63 else 16, [(0, .ref 117), (1, .int v1), (2, .int v2), (3, .long v3), (5, .int v5)], [], σ)) 1 rfl rfl (conj_c (rfl) (conj_c (⟨rfl, inB_in (by decide)⟩) (trivial))) ?_
  by_cases c6 : (σ.1 118 0) ≤ v5
  · rw [if_pos c6] at h
    refine Rc.ifp c6 ?_
    refine Rc.blk (c := []) (s2 := (64, [(0, .ref 117), (1, .int v1), (2, .int v2), (3, .long v3), (5, .int v5)], [.long v3], σ)) 9 rfl rfl (trivial) ?_
    obtain ⟨rfl, rfl⟩ := some_pair h
    exact Rc.ret 10 rfl rfl rfl trivial ⟨rfl, rfl⟩
  · rw [if_neg c6] at h
    refine Rc.ifn c6 ?_
    refine Rc.blk (c := []) (s2 := (if v5 = v2 then 54 else 23, [(0, .ref 117), (1, .int v1), (2, .int v2), (3, .long v3), (5, .int v5)], [.long v3], σ)) 2 rfl rfl (trivial) ?_
    by_cases c5 : v5 = v2
    · rw [if_pos c5] at h
      refine Rc.ifp c5 ?_
      refine Rc.pick [0, 1, 2, 4] (lv2 := [(0, .ref 117), (1, .int v1), (2, .int v2), (5, .int v5)]) rfl ?_
      exact m_weighs_117_b54_ok hd hk5 _ _ _ _ _ _ _ h
    · rw [if_neg c5] at h
      refine Rc.ifn c5 ?_
      obtain ⟨g1, h⟩ := gd_some h
      refine Rc.blk (c := [_, _]) (s2 := (if (lg_cmp (σ.2 124 v5.toNatClampNeg) 0) = 0 then 54 else 35, [(0, .ref 117), (1, .int v1), (2, .int v2), (3, .long v3), (5, .int v5)], [.long v3], σ)) 3 rfl rfl (conj_c (rfl) (conj_c (⟨rfl, inB_in g1⟩) (trivial))) ?_
      by_cases c4 : (lg_cmp (σ.2 124 v5.toNatClampNeg) 0) = 0
      · rw [if_pos c4] at h
        refine Rc.ifp c4 ?_
        refine Rc.pick [0, 1, 2, 4] (lv2 := [(0, .ref 117), (1, .int v1), (2, .int v2), (5, .int v5)]) rfl ?_
        exact m_weighs_117_b54_ok hd hk5 _ _ _ _ _ _ _ h
      · rw [if_neg c4] at h
        refine Rc.ifn c4 ?_
        obtain ⟨g2, h⟩ := gd_some h
        refine Rc.blk (c := [_, _]) (s2 := (46, [(0, .ref 117), (1, .int v1), (2, .int v2), (3, .long v3), (5, .int v5)], [.int v1, .int v5, .ref 117, .long (σ.2 124 v5.toNatClampNeg), .long v3], σ)) 4 rfl rfl (conj_c (rfl) (conj_c (⟨rfl, inB_in g2⟩) (trivial))) ?_
        obtain ⟨r3, σ3, hc, h⟩ := bd_some h
        refine Rc.call (Ev.mono d) (v := some (.int r3)) (as := [.ref 117, .int v5, .int v1]) (r := [.long (σ.2 124 v5.toNatClampNeg), .long v3]) 5 rfl rfl rfl rfl ⟨rfl, Nat.le_of_ble_eq_true rfl⟩ (m_powerIn_117_ok (by omega) hc) ?_
        show Rc _ _ _ (49, [(0, .ref 117), (1, .int v1), (2, .int v2), (3, .long v3), (5, .int v5)], [.int r3, .long (σ.2 124 v5.toNatClampNeg), .long v3], σ3) _
        refine Rc.blk (c := []) (s2 := (55, [(0, .ref 117), (1, .int v1), (2, .int v2), (3, .long v3), (5, .int v5)], [.long ((σ.2 124 v5.toNatClampNeg) * r3.toInt64), .long v3], σ3)) 6 rfl rfl (trivial) ?_
        refine Rc.pick [0, 1, 2, 4] (lv2 := [(0, .ref 117), (1, .int v1), (2, .int v2), (5, .int v5)]) rfl ?_
        exact m_weighs_117_b55_ok hd hk5 _ _ _ _ _ _ _ _ h
theorem m_weighs_117_L5_ok {d : Nat} (hd : 2 ≤ d) : ∀ (n : Nat) (v1 : Int32) (v2 : Int32) (v3 : Int64) (v5 : Int32) (σ : Sg) (r : Int64) (σ2 : Sg), m_weighs_117_L5 n v1 v2 v3 v5 σ = some (r, σ2) → Rc none (Ev MT CT d) sg175 (5, [(0, .ref 117), (1, .int v1), (2, .int v2), (3, .long v3), (5, .int v5)], [], σ) (fun v s => v = some (.long r) ∧ s = σ2)
  | 0, _, _, _, _, _, _, _, h => by cases h
  | n + 1, v1, v2, v3, v5, σ, r, σ2, h => m_weighs_117_H5_ok hd (m_weighs_117_L5_ok hd n) v1 v2 v3 v5 σ r σ2 h
theorem m_weighs_117_ok {d : Nat} (hd : 3 ≤ d) {v1 : Int32} {v2 : Int32} {σ : Sg} {r : Int64} {σ2 : Sg} (h : m_weighs_117 v1 v2 σ = some (r, σ2)) : Ev MT CT d 175 [.ref 117, .int v1, .int v2] σ (fun v s => v = some (.long r) ∧ s = σ2) := by
  obtain ⟨d, rfl⟩ : ∃ e, d = e + 1 := ⟨d - 1, by omega⟩
  refine ⟨Nat.le_of_ble_eq_true rfl, ?_⟩
  show Rc none (Ev MT CT d) sg175 (0, [(0, .ref 117), (1, .int v1), (2, .int v2)], [], σ) _
  unfold m_weighs_117 at h
  have hd : 2 ≤ d := by omega
  refine Rc.blk (c := []) (s2 := (5, [(5, .int 0), (3, .long 0), (0, .ref 117), (1, .int v1), (2, .int v2)], [], σ)) 0 rfl rfl (trivial) ?_
  refine Rc.pick [2, 3, 4, 1, 0] (lv2 := [(0, .ref 117), (1, .int v1), (2, .int v2), (3, .long 0), (5, .int 0)]) rfl ?_
  exact m_weighs_117_L5_ok hd fu _ _ _ _ _ _ _ h
theorem m_isAlike_117_b34_ok {d : Nat} (hd : 3 ≤ d) {k4 : Int32 → Int32 → Sg → Option (Int32 × Sg)} (hk4 : ∀ (v1 : Int32) (v2 : Int32) (σ : Sg) (r : Int32) (σ2 : Sg), k4 v1 v2 σ = some (r, σ2) → Rc none (Ev MT CT d) sg177 (4, [(0, .ref 117), (1, .int v1), (2, .int v2)], [], σ) (fun v s => v = some (.int r) ∧ s = σ2)) (v2 : Int32) (s0 : Int32) (s1 : Int32) (σ : Sg) (r : Int32) (σ2 : Sg) (h : m_isAlike_117_b34 k4 v2 s0 s1 σ = some (r, σ2)) : Rc none (Ev MT CT d) sg177 (34, [(0, .ref 117), (2, .int v2)], [.int s1, .int s0], σ) (fun v s => v = some (.int r) ∧ s = σ2) := by
  unfold m_isAlike_117_b34 at h
  refine Rc.blk (c := []) (s2 := (4, [(2, .int (v2 + 1)), (1, .int (s0 &&& s1)), (0, .ref 117)], [], σ)) 10 rfl rfl (trivial) ?_
  refine Rc.pick [2, 1, 0] (lv2 := [(0, .ref 117), (1, .int (s0 &&& s1)), (2, .int (v2 + 1))]) rfl ?_
  exact hk4 _ _ _ _ _ h
theorem m_isAlike_117_b29_ok {d : Nat} (hd : 3 ≤ d) {k4 : Int32 → Int32 → Sg → Option (Int32 × Sg)} (hk4 : ∀ (v1 : Int32) (v2 : Int32) (σ : Sg) (r : Int32) (σ2 : Sg), k4 v1 v2 σ = some (r, σ2) → Rc none (Ev MT CT d) sg177 (4, [(0, .ref 117), (1, .int v1), (2, .int v2)], [], σ) (fun v s => v = some (.int r) ∧ s = σ2)) (v2 : Int32) (s0 : Int32) (σ : Sg) (r : Int32) (σ2 : Sg) (h : m_isAlike_117_b29 k4 v2 s0 σ = some (r, σ2)) : Rc none (Ev MT CT d) sg177 (29, [(0, .ref 117), (2, .int v2)], [.int s0], σ) (fun v s => v = some (.int r) ∧ s = σ2) := by
  unfold m_isAlike_117_b29 at h
  refine Rc.blk (c := []) (s2 := (34, [(0, .ref 117), (2, .int v2)], [.int 1, .int s0], σ)) 8 rfl rfl (trivial) ?_
  exact m_isAlike_117_b34_ok hd hk4 _ _ _ _ _ _ h
theorem m_isAlike_117_H4_ok {d : Nat} (hd : 3 ≤ d) {k4 : Int32 → Int32 → Sg → Option (Int32 × Sg)} (hk4 : ∀ (v1 : Int32) (v2 : Int32) (σ : Sg) (r : Int32) (σ2 : Sg), k4 v1 v2 σ = some (r, σ2) → Rc none (Ev MT CT d) sg177 (4, [(0, .ref 117), (1, .int v1), (2, .int v2)], [], σ) (fun v s => v = some (.int r) ∧ s = σ2)) (v1 : Int32) (v2 : Int32) (σ : Sg) (r : Int32) (σ2 : Sg) (h : m_isAlike_117_H4 k4 v1 v2 σ = some (r, σ2)) : Rc none (Ev MT CT d) sg177 (4, [(0, .ref 117), (1, .int v1), (2, .int v2)], [], σ) (fun v s => v = some (.int r) ∧ s = σ2) := by
  unfold m_isAlike_117_H4 at h
  refine Rc.blk (c := []) (s2 := (if 97 < v2 then 42 else 10, [(0, .ref 117), (1, .int v1), (2, .int v2)], [], σ)) 1 rfl rfl (trivial) ?_
  by_cases c5 : 97 < v2
  · rw [if_pos c5] at h
    refine Rc.ifp c5 ?_
    refine Rc.blk (c := []) (s2 := (43, [(0, .ref 117), (1, .int v1), (2, .int v2)], [.int v1], σ)) 11 rfl rfl (trivial) ?_
    obtain ⟨g, h⟩ := gd_some h
    obtain ⟨rfl, rfl⟩ := some_pair h
    exact Rc.ret 12 rfl rfl rfl (nbB_ok g) ⟨rfl, rfl⟩
  · rw [if_neg c5] at h
    refine Rc.ifn c5 ?_
    refine Rc.blk (c := []) (s2 := (12, [(0, .ref 117), (1, .int v1), (2, .int v2)], [.int v2, .int v1], σ)) 2 rfl rfl (trivial) ?_
    obtain ⟨r1, σ1, hc, h⟩ := bd_some h
    refine Rc.call (Ev.mono d) (v := some (.int r1)) (as := [.int v2]) (r := [.int v1]) 3 rfl rfl rfl rfl (Nat.le_of_ble_eq_true rfl) (m_isPrime_s_ok (by omega) hc) ?_
    show Rc _ _ _ (15, [(0, .ref 117), (1, .int v1), (2, .int v2)], [.int r1, .int v1], σ1) _
    refine Rc.blk (c := []) (s2 := (if r1 = 0 then 29 else 18, [(0, .ref 117), (1, .int v1), (2, .int v2)], [.int v1], σ1)) 4 rfl rfl (trivial) ?_
    by_cases c4 : r1 = 0
    · rw [if_pos c4] at h
      refine Rc.ifp c4 ?_
      refine Rc.pick [0, 2] (lv2 := [(0, .ref 117), (2, .int v2)]) rfl ?_
      exact m_isAlike_117_b29_ok hd hk4 _ _ _ _ _ h
    · rw [if_neg c4] at h
      refine Rc.ifn c4 ?_
      refine Rc.blk (c := []) (s2 := (21, [(0, .ref 117), (1, .int v1), (2, .int v2)], [.int (-1), .int v2, .ref 117, .int v1], σ1)) 5 rfl rfl (trivial) ?_
      obtain ⟨r2, σ2, hc, h⟩ := bd_some h
      refine Rc.call (Ev.mono d) (v := some (.long r2)) (as := [.ref 117, .int v2, .int (-1)]) (r := [.int v1]) 6 rfl rfl rfl rfl ⟨rfl, Nat.le_of_ble_eq_true rfl⟩ (m_weighs_117_ok (by omega) hc) ?_
      show Rc _ _ _ (24, [(0, .ref 117), (1, .int v1), (2, .int v2)], [.long r2, .int v1], σ2) _
      refine Rc.blk (c := []) (s2 := (if ¬ (lg_cmp r2 0) = 0 then 33 else 29, [(0, .ref 117), (1, .int v1), (2, .int v2)], [.int v1], σ2)) 7 rfl rfl (trivial) ?_
      by_cases c3 : (lg_cmp r2 0) = 0
      · rw [if_pos c3] at h
        refine Rc.ifn (fun q => q c3) ?_
        refine Rc.pick [0, 2] (lv2 := [(0, .ref 117), (2, .int v2)]) rfl ?_
        exact m_isAlike_117_b29_ok hd hk4 _ _ _ _ _ h
      · rw [if_neg c3] at h
        refine Rc.ifp c3 ?_
        refine Rc.blk (c := []) (s2 := (34, [(0, .ref 117), (1, .int v1), (2, .int v2)], [.int 0, .int v1], σ2)) 9 rfl rfl (trivial) ?_
        refine Rc.pick [0, 2] (lv2 := [(0, .ref 117), (2, .int v2)]) rfl ?_
        exact m_isAlike_117_b34_ok hd hk4 _ _ _ _ _ _ h
theorem m_isAlike_117_L4_ok {d : Nat} (hd : 3 ≤ d) : ∀ (n : Nat) (v1 : Int32) (v2 : Int32) (σ : Sg) (r : Int32) (σ2 : Sg), m_isAlike_117_L4 n v1 v2 σ = some (r, σ2) → Rc none (Ev MT CT d) sg177 (4, [(0, .ref 117), (1, .int v1), (2, .int v2)], [], σ) (fun v s => v = some (.int r) ∧ s = σ2)
  | 0, _, _, _, _, _, h => by cases h
  | n + 1, v1, v2, σ, r, σ2, h => m_isAlike_117_H4_ok hd (m_isAlike_117_L4_ok hd n) v1 v2 σ r σ2 h
theorem m_isAlike_117_ok {d : Nat} (hd : 4 ≤ d) {σ : Sg} {r : Int32} {σ2 : Sg} (h : m_isAlike_117 σ = some (r, σ2)) : Ev MT CT d 177 [.ref 117] σ (fun v s => v = some (.int r) ∧ s = σ2) := by
  obtain ⟨d, rfl⟩ : ∃ e, d = e + 1 := ⟨d - 1, by omega⟩
  refine ⟨Nat.le_of_ble_eq_true rfl, ?_⟩
  show Rc none (Ev MT CT d) sg177 (0, [(0, .ref 117)], [], σ) _
  unfold m_isAlike_117 at h
  have hd : 3 ≤ d := by omega
  refine Rc.blk (c := []) (s2 := (4, [(2, .int 2), (1, .int 1), (0, .ref 117)], [], σ)) 0 rfl rfl (trivial) ?_
  refine Rc.pick [2, 1, 0] (lv2 := [(0, .ref 117), (1, .int 1), (2, .int 2)]) rfl ?_
  exact m_isAlike_117_L4_ok hd fu _ _ _ _ _ h
theorem m_alike_117_b40_ok {d : Nat} (hd : 6 ≤ d) {k10 : Int32 → Int32 → Sg → Option (Int32 × Sg)} (hk10 : ∀ (v1 : Int32) (v2 : Int32) (σ : Sg) (r : Int32) (σ2 : Sg), k10 v1 v2 σ = some (r, σ2) → Rc none (Ev MT CT d) sg178 (10, [(0, .ref 117), (1, .int v1), (2, .int v2)], [], σ) (fun v s => v = some (.int r) ∧ s = σ2)) (v1 : Int32) (v2 : Int32) (σ : Sg) (r : Int32) (σ2 : Sg) (h : m_alike_117_b40 k10 v1 v2 σ = some (r, σ2)) : Rc none (Ev MT CT d) sg178 (40, [(0, .ref 117), (1, .int v1), (2, .int v2)], [], σ) (fun v s => v = some (.int r) ∧ s = σ2) := by
  unfold m_alike_117_b40 at h
  refine Rc.blk (c := []) (s2 := (10, [(2, .int (v2 + 1)), (0, .ref 117), (1, .int v1)], [], σ)) 16 rfl rfl (trivial) ?_
  refine Rc.pick [1, 2, 0] (lv2 := [(0, .ref 117), (1, .int v1), (2, .int (v2 + 1))]) rfl ?_
  exact hk10 _ _ _ _ _ h
theorem m_alike_117_H10_ok {d : Nat} (hd : 6 ≤ d) {k10 : Int32 → Int32 → Sg → Option (Int32 × Sg)} (hk10 : ∀ (v1 : Int32) (v2 : Int32) (σ : Sg) (r : Int32) (σ2 : Sg), k10 v1 v2 σ = some (r, σ2) → Rc none (Ev MT CT d) sg178 (10, [(0, .ref 117), (1, .int v1), (2, .int v2)], [], σ) (fun v s => v = some (.int r) ∧ s = σ2)) (v1 : Int32) (v2 : Int32) (σ : Sg) (r : Int32) (σ2 : Sg) (h : m_alike_117_H10 k10 v1 v2 σ = some (r, σ2)) : Rc none (Ev MT CT d) sg178 (10, [(0, .ref 117), (1, .int v1), (2, .int v2)], [], σ) (fun v s => v = some (.int r) ∧ s = σ2) := by
  unfold m_alike_117_H10 at h
  refine Rc.blk (c := []) (s2 := (if v1 ≤ v2 then 46 else 15, [(0, .ref 117), (1, .int v1), (2, .int v2)], [], σ)) 4 rfl rfl (trivial) ?_
  by_cases c7 : v1 ≤ v2
  · rw [if_pos c7] at h
    refine Rc.ifp c7 ?_
    refine Rc.blk (c := []) (s2 := (48, [(0, .ref 117), (1, .int v1), (2, .int v2)], [.int (-9)], σ)) 17 rfl rfl (trivial) ?_
    obtain ⟨rfl, rfl⟩ := some_pair h
    exact Rc.ret 18 rfl rfl rfl trivial ⟨rfl, rfl⟩
  · rw [if_neg c7] at h
    refine Rc.ifn c7 ?_
    refine Rc.blk (c := []) (s2 := (18, [(0, .ref 117), (1, .int v1), (2, .int v2)], [.int v2, .ref 117, .ref 117], σ)) 5 rfl rfl (trivial) ?_
    obtain ⟨r1, σ1, hc, h⟩ := bd_some h
    refine Rc.call (Ev.mono d) (v := some (.int r1)) (as := [.ref 117, .int v2]) (r := [.ref 117]) 6 rfl rfl rfl rfl ⟨rfl, Nat.le_of_ble_eq_true rfl⟩ (m_ownOf_117_ok (by omega) hc) ?_
    show Rc _ _ _ (21, [(0, .ref 117), (1, .int v1), (2, .int v2)], [.int r1, .ref 117], σ1) _
    obtain ⟨r2, σ2, hc, h⟩ := bd_some h
    refine Rc.call (Ev.mono d) (v := none) (as := [.ref 117, .int r1]) (r := []) 7 rfl rfl rfl rfl ⟨rfl, Nat.le_of_ble_eq_true rfl⟩ (m_groups_117_ok (by omega) hc) ?_
    show Rc _ _ _ (24, [(0, .ref 117), (1, .int v1), (2, .int v2)], [], σ2) _
    refine Rc.blk (c := []) (s2 := (25, [(0, .ref 117), (1, .int v1), (2, .int v2)], [.ref 117], σ2)) 8 rfl rfl (trivial) ?_
    obtain ⟨r3, σ3, hc, h⟩ := bd_some h
    refine Rc.call (Ev.mono d) (v := some (.int r3)) (as := [.ref 117]) (r := []) 9 rfl rfl rfl rfl ⟨rfl, Nat.le_of_ble_eq_true rfl⟩ (m_areScaled_117_ok (by omega) hc) ?_
    show Rc _ _ _ (28, [(0, .ref 117), (1, .int v1), (2, .int v2)], [.int r3], σ3) _
    refine Rc.blk (c := []) (s2 := (if r3 = 0 then 40 else 31, [(0, .ref 117), (1, .int v1), (2, .int v2)], [], σ3)) 10 rfl rfl (trivial) ?_
    by_cases c6 : r3 = 0
    · rw [if_pos c6] at h
      refine Rc.ifp c6 ?_
      exact m_alike_117_b40_ok hd hk10 _ _ _ _ _ h
    · rw [if_neg c6] at h
      refine Rc.ifn c6 ?_
      refine Rc.blk (c := []) (s2 := (32, [(0, .ref 117), (1, .int v1), (2, .int v2)], [.ref 117], σ3)) 11 rfl rfl (trivial) ?_
      obtain ⟨r4, σ4, hc, h⟩ := bd_some h
      refine Rc.call (Ev.mono d) (v := some (.int r4)) (as := [.ref 117]) (r := []) 12 rfl rfl rfl rfl ⟨rfl, Nat.le_of_ble_eq_true rfl⟩ (m_isAlike_117_ok (by omega) hc) ?_
      show Rc _ _ _ (35, [(0, .ref 117), (1, .int v1), (2, .int v2)], [.int r4], σ4) _
      refine Rc.blk (c := []) (s2 := (if ¬ r4 = 0 then 40 else 38, [(0, .ref 117), (1, .int v1), (2, .int v2)], [], σ4)) 13 rfl rfl (trivial) ?_
      by_cases c5 : r4 = 0
      · rw [if_pos c5] at h
        refine Rc.ifn (fun q => q c5) ?_
        refine Rc.blk (c := []) (s2 := (39, [(0, .ref 117), (1, .int v1), (2, .int v2)], [.int v2], σ4)) 14 rfl rfl (trivial) ?_
        obtain ⟨rfl, rfl⟩ := some_pair h
        exact Rc.ret 15 rfl rfl rfl trivial ⟨rfl, rfl⟩
      · rw [if_neg c5] at h
        refine Rc.ifp c5 ?_
        exact m_alike_117_b40_ok hd hk10 _ _ _ _ _ h
theorem m_alike_117_L10_ok {d : Nat} (hd : 6 ≤ d) : ∀ (n : Nat) (v1 : Int32) (v2 : Int32) (σ : Sg) (r : Int32) (σ2 : Sg), m_alike_117_L10 n v1 v2 σ = some (r, σ2) → Rc none (Ev MT CT d) sg178 (10, [(0, .ref 117), (1, .int v1), (2, .int v2)], [], σ) (fun v s => v = some (.int r) ∧ s = σ2)
  | 0, _, _, _, _, _, h => by cases h
  | n + 1, v1, v2, σ, r, σ2, h => m_alike_117_H10_ok hd (m_alike_117_L10_ok hd n) v1 v2 σ r σ2 h
theorem m_alike_117_ok {d : Nat} (hd : 7 ≤ d) {σ : Sg} {r : Int32} {σ2 : Sg} (h : m_alike_117 σ = some (r, σ2)) : Ev MT CT d 178 [.ref 117] σ (fun v s => v = some (.int r) ∧ s = σ2) := by
  obtain ⟨d, rfl⟩ : ∃ e, d = e + 1 := ⟨d - 1, by omega⟩
  refine ⟨Nat.le_of_ble_eq_true rfl, ?_⟩
  show Rc none (Ev MT CT d) sg178 (0, [(0, .ref 117)], [], σ) _
  unfold m_alike_117 at h
  have hd : 6 ≤ d := by omega
  refine Rc.blk (c := []) (s2 := (1, [(0, .ref 117)], [.ref 117], σ)) 0 rfl rfl (trivial) ?_
  obtain ⟨r1, σ1, hc, h⟩ := bd_some h
  refine Rc.call (Ev.mono d) (v := some (.int r1)) (as := [.ref 117]) (r := []) 1 rfl rfl rfl rfl ⟨rfl, Nat.le_of_ble_eq_true rfl⟩ (m_loose_117_ok (by omega) hc) ?_
  show Rc _ _ _ (4, [(0, .ref 117)], [.int r1], σ1) _
  obtain ⟨r2, σ2, hc, h⟩ := bd_some h
  refine Rc.call (Ev.mono d) (v := some (.int r2)) (as := [.int r1]) (r := []) 2 rfl rfl rfl rfl (Nat.le_of_ble_eq_true rfl) (m_bits_s_ok (by omega) hc) ?_
  show Rc _ _ _ (7, [(0, .ref 117)], [.int r2], σ2) _
  refine Rc.blk (c := []) (s2 := (10, [(2, .int 0), (1, .int r2), (0, .ref 117)], [], σ2)) 3 rfl rfl (trivial) ?_
  refine Rc.pick [2, 1, 0] (lv2 := [(0, .ref 117), (1, .int r2), (2, .int 0)]) rfl ?_
  exact m_alike_117_L10_ok hd fu _ _ _ _ _ h
theorem m_isScaled_117_b54_ok {d : Nat} (hd : 5 ≤ d) (v2 : Int32) (σ : Sg) (r : Int32) (σ2 : Sg) (h : m_isScaled_117_b54 v2 σ = some (r, σ2)) : Rc none (Ev MT CT d) sg179 (54, [(2, .int v2)], [], σ) (fun v s => v = some (.int r) ∧ s = σ2) := by
  unfold m_isScaled_117_b54 at h
  refine Rc.blk (c := []) (s2 := (55, [(2, .int v2)], [.int v2], σ)) 12 rfl rfl (trivial) ?_
  obtain ⟨g, h⟩ := gd_some h
  obtain ⟨rfl, rfl⟩ := some_pair h
  exact Rc.ret 13 rfl rfl rfl (nbB_ok g) ⟨rfl, rfl⟩
theorem m_isScaled_117_b47_ok {d : Nat} (hd : 5 ≤ d) {k8 : Int32 → Int32 → Int32 → Sg → Option (Int32 × Sg)} (hk8 : ∀ (v1 : Int32) (v2 : Int32) (v3 : Int32) (σ : Sg) (r : Int32) (σ2 : Sg), k8 v1 v2 v3 σ = some (r, σ2) → Rc none (Ev MT CT d) sg179 (8, [(0, .ref 117), (1, .int v1), (2, .int v2), (3, .int v3)], [], σ) (fun v s => v = some (.int r) ∧ s = σ2)) (v1 : Int32) (v3 : Int32) (s0 : Int32) (σ : Sg) (r : Int32) (σ2 : Sg) (h : m_isScaled_117_b47 k8 v1 v3 s0 σ = some (r, σ2)) : Rc none (Ev MT CT d) sg179 (47, [(0, .ref 117), (1, .int v1), (3, .int v3)], [.int s0], σ) (fun v s => v = some (.int r) ∧ s = σ2) := by
  unfold m_isScaled_117_b47 at h
  refine Rc.blk (c := []) (s2 := (8, [(3, .int (v3 + 1)), (2, .int s0), (0, .ref 117), (1, .int v1)], [], σ)) 11 rfl rfl (trivial) ?_
  refine Rc.pick [2, 3, 1, 0] (lv2 := [(0, .ref 117), (1, .int v1), (2, .int s0), (3, .int (v3 + 1))]) rfl ?_
  exact hk8 _ _ _ _ _ _ h
theorem m_isScaled_117_b42_ok {d : Nat} (hd : 5 ≤ d) {k8 : Int32 → Int32 → Int32 → Sg → Option (Int32 × Sg)} (hk8 : ∀ (v1 : Int32) (v2 : Int32) (v3 : Int32) (σ : Sg) (r : Int32) (σ2 : Sg), k8 v1 v2 v3 σ = some (r, σ2) → Rc none (Ev MT CT d) sg179 (8, [(0, .ref 117), (1, .int v1), (2, .int v2), (3, .int v3)], [], σ) (fun v s => v = some (.int r) ∧ s = σ2)) (v1 : Int32) (v3 : Int32) (σ : Sg) (r : Int32) (σ2 : Sg) (h : m_isScaled_117_b42 k8 v1 v3 σ = some (r, σ2)) : Rc none (Ev MT CT d) sg179 (42, [(0, .ref 117), (1, .int v1), (3, .int v3)], [], σ) (fun v s => v = some (.int r) ∧ s = σ2) := by
  unfold m_isScaled_117_b42 at h
  refine Rc.blk (c := []) (s2 := (47, [(0, .ref 117), (1, .int v1), (3, .int v3)], [.int 1], σ)) 9 rfl rfl (trivial) ?_
  exact m_isScaled_117_b47_ok hd hk8 _ _ _ _ _ _ h
theorem m_isScaled_117_H8_ok {d : Nat} (hd : 5 ≤ d) {k8 : Int32 → Int32 → Int32 → Sg → Option (Int32 × Sg)} (hk8 : ∀ (v1 : Int32) (v2 : Int32) (v3 : Int32) (σ : Sg) (r : Int32) (σ2 : Sg), k8 v1 v2 v3 σ = some (r, σ2) → Rc none (Ev MT CT d) sg179 (8, [(0, .ref 117), (1, .int v1), (2, .int v2), (3, .int v3)], [], σ) (fun v s => v = some (.int r) ∧ s = σ2)) (v1 : Int32) (v2 : Int32) (v3 : Int32) (σ : Sg) (r : Int32) (σ2 : Sg) (h : m_isScaled_117_H8 k8 v1 v2 v3 σ = some (r, σ2)) : Rc none (Ev MT CT d) sg179 (8, [(0, .ref 117), (1, .int v1), (2, .int v2), (3, .int v3)], [], σ) (fun v s => v = some (.int r) ∧ s = σ2) := by
  unfold m_isScaled_117_H8 at h
  refine Rc.blk (c := [_, _]) (s2 := (if (σ.1 118 0) ≤ v3 then 54 else 18, [(0, .ref 117), (1, .int v1), (2, .int v2), (3, .int v3)], [], σ)) 3 rfl rfl (conj_c (rfl) (conj_c (⟨rfl, inB_in (by decide)⟩) (trivial))) ?_
  by_cases c6 : (σ.1 118 0) ≤ v3
  · rw [if_pos c6] at h
    refine Rc.ifp c6 ?_
    refine Rc.pick [2] (lv2 := [(2, .int v2)]) rfl ?_
    exact m_isScaled_117_b54_ok hd _ _ _ _ h
  · rw [if_neg c6] at h
    refine Rc.ifn c6 ?_
    refine Rc.blk (c := []) (s2 := (if v2 = 0 then 54 else 22, [(0, .ref 117), (1, .int v1), (2, .int v2), (3, .int v3)], [], σ)) 4 rfl rfl (trivial) ?_
    by_cases c5 : v2 = 0
    · rw [if_pos c5] at h
      refine Rc.ifp c5 ?_
      refine Rc.pick [2] (lv2 := [(2, .int v2)]) rfl ?_
      exact m_isScaled_117_b54_ok hd _ _ _ _ h
    · rw [if_neg c5] at h
      refine Rc.ifn c5 ?_
      refine Rc.blk (c := []) (s2 := (24, [(0, .ref 117), (1, .int v1), (2, .int v2), (3, .int v3)], [.int v3, .int v1], σ)) 5 rfl rfl (trivial) ?_
      obtain ⟨r1, σ1, hc, h⟩ := bd_some h
      refine Rc.call (Ev.mono d) (v := some (.int r1)) (as := [.int v1, .int v3]) (r := []) 6 rfl rfl rfl rfl (Nat.le_of_ble_eq_true rfl) (m_has_s_ok (by omega) hc) ?_
      show Rc _ _ _ (27, [(0, .ref 117), (1, .int v1), (2, .int v2), (3, .int v3)], [.int r1], σ1) _
      refine Rc.blk (c := []) (s2 := (if r1 = 0 then 42 else 30, [(0, .ref 117), (1, .int v1), (2, .int v2), (3, .int v3)], [], σ1)) 7 rfl rfl (trivial) ?_
      by_cases c4 : r1 = 0
      · rw [if_pos c4] at h
        refine Rc.ifp c4 ?_
        refine Rc.pick [0, 1, 3] (lv2 := [(0, .ref 117), (1, .int v1), (3, .int v3)]) rfl ?_
        exact m_isScaled_117_b42_ok hd hk8 _ _ _ _ _ h
      · rw [if_neg c4] at h
        refine Rc.ifn c4 ?_
        obtain ⟨g2, h⟩ := gd_some h
        refine Rc.blk (c := [_, _]) (s2 := (if (σ1.1 118 (49 + v3).toNatClampNeg) ≤ 0 then 46 else 42, [(0, .ref 117), (1, .int v1), (2, .int v2), (3, .int v3)], [], σ1)) 8 rfl rfl (conj_c (rfl) (conj_c (⟨rfl, inB_in g2⟩) (trivial))) ?_
        by_cases c3 : (σ1.1 118 (49 + v3).toNatClampNeg) ≤ 0
        · rw [if_pos c3] at h
          refine Rc.ifp c3 ?_
          refine Rc.blk (c := []) (s2 := (47, [(0, .ref 117), (1, .int v1), (2, .int v2), (3, .int v3)], [.int 0], σ1)) 10 rfl rfl (trivial) ?_
          refine Rc.pick [0, 1, 3] (lv2 := [(0, .ref 117), (1, .int v1), (3, .int v3)]) rfl ?_
          exact m_isScaled_117_b47_ok hd hk8 _ _ _ _ _ _ h
        · rw [if_neg c3] at h
          refine Rc.ifn c3 ?_
          refine Rc.pick [0, 1, 3] (lv2 := [(0, .ref 117), (1, .int v1), (3, .int v3)]) rfl ?_
          exact m_isScaled_117_b42_ok hd hk8 _ _ _ _ _ h
theorem m_isScaled_117_L8_ok {d : Nat} (hd : 5 ≤ d) : ∀ (n : Nat) (v1 : Int32) (v2 : Int32) (v3 : Int32) (σ : Sg) (r : Int32) (σ2 : Sg), m_isScaled_117_L8 n v1 v2 v3 σ = some (r, σ2) → Rc none (Ev MT CT d) sg179 (8, [(0, .ref 117), (1, .int v1), (2, .int v2), (3, .int v3)], [], σ) (fun v s => v = some (.int r) ∧ s = σ2)
  | 0, _, _, _, _, _, _, h => by cases h
  | n + 1, v1, v2, v3, σ, r, σ2, h => m_isScaled_117_H8_ok hd (m_isScaled_117_L8_ok hd n) v1 v2 v3 σ r σ2 h
theorem m_isScaled_117_ok {d : Nat} (hd : 6 ≤ d) {v1 : Int32} {σ : Sg} {r : Int32} {σ2 : Sg} (h : m_isScaled_117 v1 σ = some (r, σ2)) : Ev MT CT d 179 [.ref 117, .int v1] σ (fun v s => v = some (.int r) ∧ s = σ2) := by
  obtain ⟨d, rfl⟩ : ∃ e, d = e + 1 := ⟨d - 1, by omega⟩
  refine ⟨Nat.le_of_ble_eq_true rfl, ?_⟩
  show Rc none (Ev MT CT d) sg179 (0, [(0, .ref 117), (1, .int v1)], [], σ) _
  unfold m_isScaled_117 at h
  have hd : 5 ≤ d := by omega
  refine Rc.blk (c := []) (s2 := (2, [(0, .ref 117), (1, .int v1)], [.int v1, .ref 117], σ)) 0 rfl rfl (trivial) ?_
  obtain ⟨r1, σ1, hc, h⟩ := bd_some h
  refine Rc.call (Ev.mono d) (v := some (.int r1)) (as := [.ref 117, .int v1]) (r := []) 1 rfl rfl rfl rfl ⟨rfl, Nat.le_of_ble_eq_true rfl⟩ (m_isChosen_117_ok (by omega) hc) ?_
  show Rc _ _ _ (5, [(0, .ref 117), (1, .int v1)], [.int r1], σ1) _
  refine Rc.blk (c := []) (s2 := (8, [(3, .int 0), (2, .int r1), (0, .ref 117), (1, .int v1)], [], σ1)) 2 rfl rfl (trivial) ?_
  refine Rc.pick [2, 3, 1, 0] (lv2 := [(0, .ref 117), (1, .int v1), (2, .int r1), (3, .int 0)]) rfl ?_
  exact m_isScaled_117_L8_ok hd fu _ _ _ _ _ _ h
theorem m_wrongMust_117_b29_ok {d : Nat} (hd : 2 ≤ d) (s0 : Int32) (σ : Sg) (r : Int32) (σ2 : Sg) (h : m_wrongMust_117_b29 s0 σ = some (r, σ2)) : Rc none (Ev MT CT d) sg180 (29, [], [.int s0], σ) (fun v s => v = some (.int r) ∧ s = σ2) := by
  unfold m_wrongMust_117_b29 at h
  obtain ⟨rfl, rfl⟩ := some_pair h
  exact Rc.ret 11 rfl rfl rfl trivial ⟨rfl, rfl⟩
theorem m_wrongMust_117_b24_ok {d : Nat} (hd : 2 ≤ d) (σ : Sg) (r : Int32) (σ2 : Sg) (h : m_wrongMust_117_b24 σ = some (r, σ2)) : Rc none (Ev MT CT d) sg180 (24, [], [], σ) (fun v s => v = some (.int r) ∧ s = σ2) := by
  unfold m_wrongMust_117_b24 at h
  refine Rc.blk (c := []) (s2 := (29, [], [.int 1], σ)) 9 rfl rfl (trivial) ?_
  exact m_wrongMust_117_b29_ok hd _ _ _ _ h
theorem m_wrongMust_117_ok {d : Nat} (hd : 3 ≤ d) {v1 : Int32} {v2 : Int32} {σ : Sg} {r : Int32} {σ2 : Sg} (h : m_wrongMust_117 v1 v2 σ = some (r, σ2)) : Ev MT CT d 180 [.ref 117, .int v1, .int v2] σ (fun v s => v = some (.int r) ∧ s = σ2) := by
  obtain ⟨d, rfl⟩ : ∃ e, d = e + 1 := ⟨d - 1, by omega⟩
  refine ⟨Nat.le_of_ble_eq_true rfl, ?_⟩
  show Rc none (Ev MT CT d) sg180 (0, [(0, .ref 117), (1, .int v1), (2, .int v2)], [], σ) _
  unfold m_wrongMust_117 at h
  have hd : 2 ≤ d := by omega
  refine Rc.blk (c := []) (s2 := (2, [(0, .ref 117), (1, .int v1), (2, .int v2)], [.int v1, .ref 117], σ)) 0 rfl rfl (trivial) ?_
  obtain ⟨r1, σ1, hc, h⟩ := bd_some h
  refine Rc.call (Ev.mono d) (v := some (.int r1)) (as := [.ref 117, .int v1]) (r := []) 1 rfl rfl rfl rfl ⟨rfl, Nat.le_of_ble_eq_true rfl⟩ (m_isSet_117_ok (by omega) hc) ?_
  show Rc _ _ _ (5, [(0, .ref 117), (1, .int v1), (2, .int v2)], [.int r1], σ1) _
  refine Rc.blk (c := []) (s2 := (if r1 = 0 then 24 else 8, [(0, .ref 117), (1, .int v1), (2, .int v2)], [], σ1)) 2 rfl rfl (trivial) ?_
  by_cases c6 : r1 = 0
  · rw [if_pos c6] at h
    refine Rc.ifp c6 ?_
    refine Rc.pick [] (lv2 := []) rfl ?_
    exact m_wrongMust_117_b24_ok hd _ _ _ h
  · rw [if_neg c6] at h
    refine Rc.ifn c6 ?_
    refine Rc.blk (c := []) (s2 := (10, [(0, .ref 117), (1, .int v1), (2, .int v2)], [.int v2, .ref 117], σ1)) 3 rfl rfl (trivial) ?_
    obtain ⟨r2, σ2, hc, h⟩ := bd_some h
    refine Rc.call (Ev.mono d) (v := some (.int r2)) (as := [.ref 117, .int v2]) (r := []) 4 rfl rfl rfl rfl ⟨rfl, Nat.le_of_ble_eq_true rfl⟩ (m_isOne_117_ok (by omega) hc) ?_
    show Rc _ _ _ (13, [(0, .ref 117), (1, .int v1), (2, .int v2)], [.int r2], σ2) _
    refine Rc.blk (c := []) (s2 := (if r2 = 0 then 24 else 16, [(0, .ref 117), (1, .int v1), (2, .int v2)], [], σ2)) 5 rfl rfl (trivial) ?_
    by_cases c5 : r2 = 0
    · rw [if_pos c5] at h
      refine Rc.ifp c5 ?_
      refine Rc.pick [] (lv2 := []) rfl ?_
      exact m_wrongMust_117_b24_ok hd _ _ _ h
    · rw [if_neg c5] at h
      refine Rc.ifn c5 ?_
      refine Rc.blk (c := []) (s2 := (18, [(0, .ref 117), (1, .int v1), (2, .int v2)], [.int v2, .int v1], σ2)) 6 rfl rfl (trivial) ?_
      obtain ⟨r3, σ3, hc, h⟩ := bd_some h
      refine Rc.call (Ev.mono d) (v := some (.int r3)) (as := [.int v1, .int v2]) (r := []) 7 rfl rfl rfl rfl (Nat.le_of_ble_eq_true rfl) (m_has_s_ok (by omega) hc) ?_
      show Rc _ _ _ (21, [(0, .ref 117), (1, .int v1), (2, .int v2)], [.int r3], σ3) _
      refine Rc.blk (c := []) (s2 := (if r3 = 0 then 28 else 24, [(0, .ref 117), (1, .int v1), (2, .int v2)], [], σ3)) 8 rfl rfl (trivial) ?_
      by_cases c4 : r3 = 0
      · rw [if_pos c4] at h
        refine Rc.ifp c4 ?_
        refine Rc.blk (c := []) (s2 := (29, [(0, .ref 117), (1, .int v1), (2, .int v2)], [.int 0], σ3)) 10 rfl rfl (trivial) ?_
        refine Rc.pick [] (lv2 := []) rfl ?_
        exact m_wrongMust_117_b29_ok hd _ _ _ _ h
      · rw [if_neg c4] at h
        refine Rc.ifn c4 ?_
        refine Rc.pick [] (lv2 := []) rfl ?_
        exact m_wrongMust_117_b24_ok hd _ _ _ h
theorem m_must_117_b67_ok {d : Nat} (hd : 6 ≤ d) (v1 : Int32) (v2 : Int32) (v3 : Int32) (v4 : Int32) (s0 : Int32) (σ : Sg) (r : Int64) (σ2 : Sg) (h : m_must_117_b67 v1 v2 v3 v4 s0 σ = some (r, σ2)) : Rc none (Ev MT CT d) sg181 (67, [(0, .ref 117), (1, .int v1), (2, .int v2), (3, .int v3), (4, .int v4)], [.int s0], σ) (fun v s => v = some (.long r) ∧ s = σ2) := by
  unfold m_must_117_b67 at h
  refine Rc.blk (c := []) (s2 := (if s0 = 0 then 81 else 74, [(5, .int s0), (0, .ref 117), (1, .int v1), (2, .int v2), (3, .int v3), (4, .int v4)], [], σ)) 19 rfl rfl (trivial) ?_
  by_cases c6 : s0 = 0
  · rw [if_pos c6] at h
    refine Rc.ifp c6 ?_
    refine Rc.blk (c := []) (s2 := (84, [(5, .int s0), (0, .ref 117), (1, .int v1), (2, .int v2), (3, .int v3), (4, .int v4)], [.int v2, .int v1, .ref 117], σ)) 23 rfl rfl (trivial) ?_
    obtain ⟨r1, σ1, hc, h⟩ := bd_some h
    refine Rc.call (Ev.mono d) (v := some (.int r1)) (as := [.ref 117, .int v1, .int v2]) (r := []) 24 rfl rfl rfl rfl ⟨rfl, Nat.le_of_ble_eq_true rfl⟩ (m_isHad_117_ok (by omega) hc) ?_
    show Rc _ _ _ (87, [(5, .int s0), (0, .ref 117), (1, .int v1), (2, .int v2), (3, .int v3), (4, .int v4)], [.int r1], σ1) _
    refine Rc.blk (c := []) (s2 := (92, [(6, .int r1), (5, .int s0), (0, .ref 117), (1, .int v1), (2, .int v2), (3, .int v3), (4, .int v4)], [.int v2, .int v3, .ref 117], σ1)) 25 rfl rfl (trivial) ?_
    obtain ⟨r2, σ2, hc, h⟩ := bd_some h
    refine Rc.call (Ev.mono d) (v := some (.long r2)) (as := [.ref 117, .int v3, .int v2]) (r := []) 26 rfl rfl rfl rfl ⟨rfl, Nat.le_of_ble_eq_true rfl⟩ (m_weighs_117_ok (by omega) hc) ?_
    show Rc _ _ _ (95, [(6, .int r1), (5, .int s0), (0, .ref 117), (1, .int v1), (2, .int v2), (3, .int v3), (4, .int v4)], [.long r2], σ2) _
    obtain ⟨g3, h⟩ := gd_some h
    refine Rc.blk (c := [_, _]) (s2 := (104, [(6, .int r1), (5, .int s0), (0, .ref 117), (1, .int v1), (2, .int v2), (3, .int v3), (4, .int v4)], [.int v4, .long (σ2.2 124 v2.toNatClampNeg), .long (-r2)], σ2)) 27 rfl rfl (conj_c (rfl) (conj_c (⟨rfl, inB_in g3⟩) (trivial))) ?_
    obtain ⟨r4, σ4, hc, h⟩ := bd_some h
    refine Rc.call (Ev.mono d) (v := some (.long r4)) (as := [.long (-r2), .long (σ2.2 124 v2.toNatClampNeg), .int v4]) (r := []) 28 rfl rfl rfl rfl (Nat.le_of_ble_eq_true rfl) (m_partOf_s_ok (by omega) hc) ?_
    show Rc _ _ _ (107, [(6, .int r1), (5, .int s0), (0, .ref 117), (1, .int v1), (2, .int v2), (3, .int v3), (4, .int v4)], [.long r4], σ4) _
    obtain ⟨rfl, rfl⟩ := some_pair h
    exact Rc.ret 29 rfl rfl rfl trivial ⟨rfl, rfl⟩
  · rw [if_neg c6] at h
    refine Rc.ifn c6 ?_
    refine Rc.blk (c := []) (s2 := (77, [(5, .int s0), (0, .ref 117), (1, .int v1), (2, .int v2), (3, .int v3), (4, .int v4)], [.int s0, .ref 117], σ)) 20 rfl rfl (trivial) ?_
    obtain ⟨r5, σ5, hc, h⟩ := bd_some h
    refine Rc.call (Ev.mono d) (v := some (.long r5)) (as := [.ref 117, .int s0]) (r := []) 21 rfl rfl rfl rfl ⟨rfl, Nat.le_of_ble_eq_true rfl⟩ (m_refuseFarther_117_ok (by omega) hc) ?_
    show Rc _ _ _ (80, [(5, .int s0), (0, .ref 117), (1, .int v1), (2, .int v2), (3, .int v3), (4, .int v4)], [.long r5], σ5) _
    obtain ⟨rfl, rfl⟩ := some_pair h
    exact Rc.ret 22 rfl rfl rfl trivial ⟨rfl, rfl⟩
theorem m_must_117_b50_ok {d : Nat} (hd : 6 ≤ d) (v1 : Int32) (v2 : Int32) (v3 : Int32) (v4 : Int32) (σ : Sg) (r : Int64) (σ2 : Sg) (h : m_must_117_b50 v1 v2 v3 v4 σ = some (r, σ2)) : Rc none (Ev MT CT d) sg181 (50, [(0, .ref 117), (1, .int v1), (2, .int v2), (3, .int v3), (4, .int v4)], [], σ) (fun v s => v = some (.long r) ∧ s = σ2) := by
  unfold m_must_117_b50 at h
  refine Rc.blk (c := []) (s2 := (67, [(0, .ref 117), (1, .int v1), (2, .int v2), (3, .int v3), (4, .int v4)], [.int 2], σ)) 13 rfl rfl (trivial) ?_
  exact m_must_117_b67_ok hd _ _ _ _ _ _ _ _ h
theorem m_must_117_ok {d : Nat} (hd : 7 ≤ d) {v1 : Int32} {v2 : Int32} {v3 : Int32} {v4 : Int32} {σ : Sg} {r : Int64} {σ2 : Sg} (h : m_must_117 v1 v2 v3 v4 σ = some (r, σ2)) : Ev MT CT d 181 [.ref 117, .int v1, .int v2, .int v3, .int v4] σ (fun v s => v = some (.long r) ∧ s = σ2) := by
  obtain ⟨d, rfl⟩ : ∃ e, d = e + 1 := ⟨d - 1, by omega⟩
  refine ⟨Nat.le_of_ble_eq_true rfl, ?_⟩
  show Rc none (Ev MT CT d) sg181 (0, [(0, .ref 117), (1, .int v1), (2, .int v2), (3, .int v3), (4, .int v4)], [], σ) _
  unfold m_must_117 at h
  have hd : 6 ≤ d := by omega
  refine Rc.blk (c := []) (s2 := (3, [(0, .ref 117), (1, .int v1), (2, .int v2), (3, .int v3), (4, .int v4)], [.int v2, .int v1, .ref 117], σ)) 0 rfl rfl (trivial) ?_
  obtain ⟨r1, σ1, hc, h⟩ := bd_some h
  refine Rc.call (Ev.mono d) (v := some (.int r1)) (as := [.ref 117, .int v1, .int v2]) (r := []) 1 rfl rfl rfl rfl ⟨rfl, Nat.le_of_ble_eq_true rfl⟩ (m_wrongMust_117_ok (by omega) hc) ?_
  show Rc _ _ _ (6, [(0, .ref 117), (1, .int v1), (2, .int v2), (3, .int v3), (4, .int v4)], [.int r1], σ1) _
  refine Rc.blk (c := []) (s2 := (if r1 = 0 then 18 else 13, [(5, .int r1), (0, .ref 117), (1, .int v1), (2, .int v2), (3, .int v3), (4, .int v4)], [], σ1)) 2 rfl rfl (trivial) ?_
  by_cases c10 : r1 = 0
  · rw [if_pos c10] at h
    refine Rc.ifp c10 ?_
    refine Rc.blk (c := []) (s2 := (26, [(5, .int r1), (0, .ref 117), (1, .int v1), (2, .int v2), (3, .int v3), (4, .int v4)], [.long 97, .long 2, .long v3.toInt64], σ1)) 4 rfl rfl (trivial) ?_
    obtain ⟨r2, σ2, hc, h⟩ := bd_some h
    refine Rc.call (Ev.mono d) (v := some (.int r2)) (as := [.long v3.toInt64, .long 2, .long 97]) (r := []) 5 rfl rfl rfl rfl (Nat.le_of_ble_eq_true rfl) (m_isIn_s_ok (by omega) hc) ?_
    show Rc _ _ _ (29, [(5, .int r1), (0, .ref 117), (1, .int v1), (2, .int v2), (3, .int v3), (4, .int v4)], [.int r2], σ2) _
    refine Rc.blk (c := []) (s2 := (if r2 = 0 then 50 else 32, [(5, .int r1), (0, .ref 117), (1, .int v1), (2, .int v2), (3, .int v3), (4, .int v4)], [], σ2)) 6 rfl rfl (trivial) ?_
    by_cases c9 : r2 = 0
    · rw [if_pos c9] at h
      refine Rc.ifp c9 ?_
      refine Rc.pick [1, 2, 3, 4, 5] (lv2 := [(0, .ref 117), (1, .int v1), (2, .int v2), (3, .int v3), (4, .int v4)]) rfl ?_
      exact m_must_117_b50_ok hd _ _ _ _ _ _ _ h
    · rw [if_neg c9] at h
      refine Rc.ifn c9 ?_
      refine Rc.blk (c := []) (s2 := (33, [(5, .int r1), (0, .ref 117), (1, .int v1), (2, .int v2), (3, .int v3), (4, .int v4)], [.int v3], σ2)) 7 rfl rfl (trivial) ?_
      obtain ⟨r3, σ3, hc, h⟩ := bd_some h
      refine Rc.call (Ev.mono d) (v := some (.int r3)) (as := [.int v3]) (r := []) 8 rfl rfl rfl rfl (Nat.le_of_ble_eq_true rfl) (m_isPrime_s_ok (by omega) hc) ?_
      show Rc _ _ _ (36, [(5, .int r1), (0, .ref 117), (1, .int v1), (2, .int v2), (3, .int v3), (4, .int v4)], [.int r3], σ3) _
      refine Rc.blk (c := []) (s2 := (if r3 = 0 then 50 else 39, [(5, .int r1), (0, .ref 117), (1, .int v1), (2, .int v2), (3, .int v3), (4, .int v4)], [], σ3)) 9 rfl rfl (trivial) ?_
      by_cases c8 : r3 = 0
      · rw [if_pos c8] at h
        refine Rc.ifp c8 ?_
        refine Rc.pick [1, 2, 3, 4, 5] (lv2 := [(0, .ref 117), (1, .int v1), (2, .int v2), (3, .int v3), (4, .int v4)]) rfl ?_
        exact m_must_117_b50_ok hd _ _ _ _ _ _ _ h
      · rw [if_neg c8] at h
        refine Rc.ifn c8 ?_
        refine Rc.blk (c := []) (s2 := (44, [(5, .int r1), (0, .ref 117), (1, .int v1), (2, .int v2), (3, .int v3), (4, .int v4)], [.long 1, .long 0, .long v4.toInt64], σ3)) 10 rfl rfl (trivial) ?_
        obtain ⟨r4, σ4, hc, h⟩ := bd_some h
        refine Rc.call (Ev.mono d) (v := some (.int r4)) (as := [.long v4.toInt64, .long 0, .long 1]) (r := []) 11 rfl rfl rfl rfl (Nat.le_of_ble_eq_true rfl) (m_isIn_s_ok (by omega) hc) ?_
        show Rc _ _ _ (47, [(5, .int r1), (0, .ref 117), (1, .int v1), (2, .int v2), (3, .int v3), (4, .int v4)], [.int r4], σ4) _
        refine Rc.blk (c := []) (s2 := (if ¬ r4 = 0 then 54 else 50, [(5, .int r1), (0, .ref 117), (1, .int v1), (2, .int v2), (3, .int v3), (4, .int v4)], [], σ4)) 12 rfl rfl (trivial) ?_
        by_cases c7 : r4 = 0
        · rw [if_pos c7] at h
          refine Rc.ifn (fun q => q c7) ?_
          refine Rc.pick [1, 2, 3, 4, 5] (lv2 := [(0, .ref 117), (1, .int v1), (2, .int v2), (3, .int v3), (4, .int v4)]) rfl ?_
          exact m_must_117_b50_ok hd _ _ _ _ _ _ _ h
        · rw [if_neg c7] at h
          refine Rc.ifp c7 ?_
          refine Rc.blk (c := []) (s2 := (56, [(5, .int r1), (0, .ref 117), (1, .int v1), (2, .int v2), (3, .int v3), (4, .int v4)], [.int v1, .ref 117], σ4)) 14 rfl rfl (trivial) ?_
          obtain ⟨r5, σ5, hc, h⟩ := bd_some h
          refine Rc.call (Ev.mono d) (v := some (.int r5)) (as := [.ref 117, .int v1]) (r := []) 15 rfl rfl rfl rfl ⟨rfl, Nat.le_of_ble_eq_true rfl⟩ (m_isScaled_117_ok (by omega) hc) ?_
          show Rc _ _ _ (59, [(5, .int r1), (0, .ref 117), (1, .int v1), (2, .int v2), (3, .int v3), (4, .int v4)], [.int r5], σ5) _
          refine Rc.blk (c := []) (s2 := (if ¬ r5 = 0 then 66 else 62, [(5, .int r1), (0, .ref 117), (1, .int v1), (2, .int v2), (3, .int v3), (4, .int v4)], [], σ5)) 16 rfl rfl (trivial) ?_
          by_cases c6 : r5 = 0
          · rw [if_pos c6] at h
            refine Rc.ifn (fun q => q c6) ?_
            refine Rc.blk (c := []) (s2 := (67, [(5, .int r1), (0, .ref 117), (1, .int v1), (2, .int v2), (3, .int v3), (4, .int v4)], [.int 3], σ5)) 17 rfl rfl (trivial) ?_
            refine Rc.pick [1, 2, 3, 4, 5] (lv2 := [(0, .ref 117), (1, .int v1), (2, .int v2), (3, .int v3), (4, .int v4)]) rfl ?_
            exact m_must_117_b67_ok hd _ _ _ _ _ _ _ _ h
          · rw [if_neg c6] at h
            refine Rc.ifp c6 ?_
            refine Rc.blk (c := []) (s2 := (67, [(5, .int r1), (0, .ref 117), (1, .int v1), (2, .int v2), (3, .int v3), (4, .int v4)], [.int 0], σ5)) 18 rfl rfl (trivial) ?_
            refine Rc.pick [1, 2, 3, 4, 5] (lv2 := [(0, .ref 117), (1, .int v1), (2, .int v2), (3, .int v3), (4, .int v4)]) rfl ?_
            exact m_must_117_b67_ok hd _ _ _ _ _ _ _ _ h
  · rw [if_neg c10] at h
    refine Rc.ifn c10 ?_
    refine Rc.blk (c := []) (s2 := (67, [(5, .int r1), (0, .ref 117), (1, .int v1), (2, .int v2), (3, .int v3), (4, .int v4)], [.int r1], σ1)) 3 rfl rfl (trivial) ?_
    refine Rc.pick [1, 2, 3, 4, 5] (lv2 := [(0, .ref 117), (1, .int v1), (2, .int v2), (3, .int v3), (4, .int v4)]) rfl ?_
    exact m_must_117_b67_ok hd _ _ _ _ _ _ _ _ h
theorem m_whole_117_b110_ok {d : Nat} (hd : 6 ≤ d) (s0 : Int32) (σ : Sg) (r : Int32) (σ2 : Sg) (h : m_whole_117_b110 s0 σ = some (r, σ2)) : Rc none (Ev MT CT d) sg182 (110, [], [.int s0], σ) (fun v s => v = some (.int r) ∧ s = σ2) := by
  unfold m_whole_117_b110 at h
  obtain ⟨rfl, rfl⟩ := some_pair h
  exact Rc.ret 29 rfl rfl rfl trivial ⟨rfl, rfl⟩
theorem m_whole_117_b91_ok {d : Nat} (hd : 6 ≤ d) {k50 : Int32 → Int32 → Int32 → Sg → Option (Int32 × Sg)} (hk50 : ∀ (v2 : Int32) (v4 : Int32) (v5 : Int32) (σ : Sg) (r : Int32) (σ2 : Sg), k50 v2 v4 v5 σ = some (r, σ2) → Rc none (Ev MT CT d) sg182 (50, [(0, .ref 117), (2, .int v2), (4, .int v4), (5, .int v5)], [], σ) (fun v s => v = some (.int r) ∧ s = σ2)) (v2 : Int32) (v5 : Int32) (s0 : Int32) (s1 : Int32) (σ : Sg) (r : Int32) (σ2 : Sg) (h : m_whole_117_b91 k50 v2 v5 s0 s1 σ = some (r, σ2)) : Rc none (Ev MT CT d) sg182 (91, [(0, .ref 117), (2, .int v2), (5, .int v5)], [.int s1, .int s0], σ) (fun v s => v = some (.int r) ∧ s = σ2) := by
  unfold m_whole_117_b91 at h
  refine Rc.blk (c := []) (s2 := (50, [(5, .int (v5 + 1)), (4, .int (s0 &&& s1)), (0, .ref 117), (2, .int v2)], [], σ)) 25 rfl rfl (trivial) ?_
  refine Rc.pick [2, 3, 1, 0] (lv2 := [(0, .ref 117), (2, .int v2), (4, .int (s0 &&& s1)), (5, .int (v5 + 1))]) rfl ?_
  exact hk50 _ _ _ _ _ _ h
theorem m_whole_117_b86_ok {d : Nat} (hd : 6 ≤ d) {k50 : Int32 → Int32 → Int32 → Sg → Option (Int32 × Sg)} (hk50 : ∀ (v2 : Int32) (v4 : Int32) (v5 : Int32) (σ : Sg) (r : Int32) (σ2 : Sg), k50 v2 v4 v5 σ = some (r, σ2) → Rc none (Ev MT CT d) sg182 (50, [(0, .ref 117), (2, .int v2), (4, .int v4), (5, .int v5)], [], σ) (fun v s => v = some (.int r) ∧ s = σ2)) (v2 : Int32) (v5 : Int32) (s0 : Int32) (σ : Sg) (r : Int32) (σ2 : Sg) (h : m_whole_117_b86 k50 v2 v5 s0 σ = some (r, σ2)) : Rc none (Ev MT CT d) sg182 (86, [(0, .ref 117), (2, .int v2), (5, .int v5)], [.int s0], σ) (fun v s => v = some (.int r) ∧ s = σ2) := by
  unfold m_whole_117_b86 at h
  refine Rc.blk (c := []) (s2 := (91, [(0, .ref 117), (2, .int v2), (5, .int v5)], [.int 1, .int s0], σ)) 23 rfl rfl (trivial) ?_
  exact m_whole_117_b91_ok hd hk50 _ _ _ _ _ _ _ h
theorem m_whole_117_H50_ok {d : Nat} (hd : 6 ≤ d) {k50 : Int32 → Int32 → Int32 → Sg → Option (Int32 × Sg)} (hk50 : ∀ (v2 : Int32) (v4 : Int32) (v5 : Int32) (σ : Sg) (r : Int32) (σ2 : Sg), k50 v2 v4 v5 σ = some (r, σ2) → Rc none (Ev MT CT d) sg182 (50, [(0, .ref 117), (2, .int v2), (4, .int v4), (5, .int v5)], [], σ) (fun v s => v = some (.int r) ∧ s = σ2)) (v2 : Int32) (v4 : Int32) (v5 : Int32) (σ : Sg) (r : Int32) (σ2 : Sg) (h : m_whole_117_H50 k50 v2 v4 v5 σ = some (r, σ2)) : Rc none (Ev MT CT d) sg182 (50, [(0, .ref 117), (2, .int v2), (4, .int v4), (5, .int v5)], [], σ) (fun v s => v = some (.int r) ∧ s = σ2) := by
  unfold m_whole_117_H50 at h
  refine Rc.blk (c := []) (s2 := (if 97 < v5 then 100 else 57, [(0, .ref 117), (2, .int v2), (4, .int v4), (5, .int v5)], [], σ)) 16 rfl rfl (trivial) ?_
  by_cases c8 : 97 < v5
  · rw [if_pos c8] at h
    refine Rc.ifp c8 ?_
    refine Rc.blk (c := []) (s2 := (if v4 = 0 then 109 else 105, [(0, .ref 117), (2, .int v2), (4, .int v4), (5, .int v5)], [], σ)) 26 rfl rfl (trivial) ?_
    by_cases c1 : v4 = 0
    · rw [if_pos c1] at h
      refine Rc.ifp c1 ?_
      refine Rc.blk (c := []) (s2 := (110, [(0, .ref 117), (2, .int v2), (4, .int v4), (5, .int v5)], [.int 0], σ)) 28 rfl rfl (trivial) ?_
      refine Rc.pick [] (lv2 := []) rfl ?_
      exact m_whole_117_b110_ok hd _ _ _ _ h
    · rw [if_neg c1] at h
      refine Rc.ifn c1 ?_
      refine Rc.blk (c := []) (s2 := (110, [(0, .ref 117), (2, .int v2), (4, .int v4), (5, .int v5)], [.int 1], σ)) 27 rfl rfl (trivial) ?_
      refine Rc.pick [] (lv2 := []) rfl ?_
      exact m_whole_117_b110_ok hd _ _ _ _ h
  · rw [if_neg c8] at h
    refine Rc.ifn c8 ?_
    refine Rc.blk (c := []) (s2 := (61, [(0, .ref 117), (2, .int v2), (4, .int v4), (5, .int v5)], [.int v5, .int v4], σ)) 17 rfl rfl (trivial) ?_
    obtain ⟨r2, σ2, hc, h⟩ := bd_some h
    refine Rc.call (Ev.mono d) (v := some (.int r2)) (as := [.int v5]) (r := [.int v4]) 18 rfl rfl rfl rfl (Nat.le_of_ble_eq_true rfl) (m_isPrime_s_ok (by omega) hc) ?_
    show Rc _ _ _ (64, [(0, .ref 117), (2, .int v2), (4, .int v4), (5, .int v5)], [.int r2, .int v4], σ2) _
    refine Rc.blk (c := []) (s2 := (if r2 = 0 then 86 else 67, [(0, .ref 117), (2, .int v2), (4, .int v4), (5, .int v5)], [.int v4], σ2)) 19 rfl rfl (trivial) ?_
    by_cases c7 : r2 = 0
    · rw [if_pos c7] at h
      refine Rc.ifp c7 ?_
      refine Rc.pick [0, 1, 3] (lv2 := [(0, .ref 117), (2, .int v2), (5, .int v5)]) rfl ?_
      exact m_whole_117_b86_ok hd hk50 _ _ _ _ _ _ h
    · rw [if_neg c7] at h
      refine Rc.ifn c7 ?_
      refine Rc.blk (c := []) (s2 := (71, [(0, .ref 117), (2, .int v2), (4, .int v4), (5, .int v5)], [.int v2, .int v5, .ref 117, .int v4], σ2)) 20 rfl rfl (trivial) ?_
      obtain ⟨r3, σ3, hc, h⟩ := bd_some h
      refine Rc.call (Ev.mono d) (v := some (.long r3)) (as := [.ref 117, .int v5, .int v2]) (r := [.int v4]) 21 rfl rfl rfl rfl ⟨rfl, Nat.le_of_ble_eq_true rfl⟩ (m_weighs_117_ok (by omega) hc) ?_
      show Rc _ _ _ (74, [(0, .ref 117), (2, .int v2), (4, .int v4), (5, .int v5)], [.long r3, .int v4], σ3) _
      obtain ⟨g4, h⟩ := gd_some h
      obtain ⟨g5, h⟩ := gd_some h
      refine Rc.blk (c := [_, _, _]) (s2 := (if ¬ (lg_cmp (lrm r3 (σ3.2 124 v2.toNatClampNeg)) 0) = 0 then 90 else 86, [(0, .ref 117), (2, .int v2), (4, .int v4), (5, .int v5)], [.int v4], σ3)) 22 rfl rfl (conj_c (rfl) (conj_c (⟨rfl, inB_in g4⟩) (conj_c (neBL_ne g5) (trivial)))) ?_
      by_cases c6 : (lg_cmp (lrm r3 (σ3.2 124 v2.toNatClampNeg)) 0) = 0
      · rw [if_pos c6] at h
        refine Rc.ifn (fun q => q c6) ?_
        refine Rc.pick [0, 1, 3] (lv2 := [(0, .ref 117), (2, .int v2), (5, .int v5)]) rfl ?_
        exact m_whole_117_b86_ok hd hk50 _ _ _ _ _ _ h
      · rw [if_neg c6] at h
        refine Rc.ifp c6 ?_
        refine Rc.blk (c := []) (s2 := (91, [(0, .ref 117), (2, .int v2), (4, .int v4), (5, .int v5)], [.int 0, .int v4], σ3)) 24 rfl rfl (trivial) ?_
        refine Rc.pick [0, 1, 3] (lv2 := [(0, .ref 117), (2, .int v2), (5, .int v5)]) rfl ?_
        exact m_whole_117_b91_ok hd hk50 _ _ _ _ _ _ _ h
theorem m_whole_117_L50_ok {d : Nat} (hd : 6 ≤ d) : ∀ (n : Nat) (v2 : Int32) (v4 : Int32) (v5 : Int32) (σ : Sg) (r : Int32) (σ2 : Sg), m_whole_117_L50 n v2 v4 v5 σ = some (r, σ2) → Rc none (Ev MT CT d) sg182 (50, [(0, .ref 117), (2, .int v2), (4, .int v4), (5, .int v5)], [], σ) (fun v s => v = some (.int r) ∧ s = σ2)
  | 0, _, _, _, _, _, _, h => by cases h
  | n + 1, v2, v4, v5, σ, r, σ2, h => m_whole_117_H50_ok hd (m_whole_117_L50_ok hd n) v2 v4 v5 σ r σ2 h
theorem m_whole_117_b28_ok {d : Nat} (hd : 6 ≤ d) (v1 : Int32) (v2 : Int32) (s0 : Int32) (σ : Sg) (r : Int32) (σ2 : Sg) (h : m_whole_117_b28 v1 v2 s0 σ = some (r, σ2)) : Rc none (Ev MT CT d) sg182 (28, [(0, .ref 117), (1, .int v1), (2, .int v2)], [.int s0], σ) (fun v s => v = some (.int r) ∧ s = σ2) := by
  unfold m_whole_117_b28 at h
  refine Rc.blk (c := []) (s2 := (if s0 = 0 then 39 else 33, [(3, .int s0), (0, .ref 117), (1, .int v1), (2, .int v2)], [], σ)) 9 rfl rfl (trivial) ?_
  by_cases c3 : s0 = 0
  · rw [if_pos c3] at h
    refine Rc.ifp c3 ?_
    refine Rc.blk (c := []) (s2 := (42, [(3, .int s0), (0, .ref 117), (1, .int v1), (2, .int v2)], [.int v2, .int v1, .ref 117], σ)) 13 rfl rfl (trivial) ?_
    obtain ⟨r1, σ1, hc, h⟩ := bd_some h
    refine Rc.call (Ev.mono d) (v := some (.int r1)) (as := [.ref 117, .int v1, .int v2]) (r := []) 14 rfl rfl rfl rfl ⟨rfl, Nat.le_of_ble_eq_true rfl⟩ (m_isHad_117_ok (by omega) hc) ?_
    show Rc _ _ _ (45, [(3, .int s0), (0, .ref 117), (1, .int v1), (2, .int v2)], [.int r1], σ1) _
    refine Rc.blk (c := []) (s2 := (50, [(5, .int 2), (4, .int r1), (3, .int s0), (0, .ref 117), (1, .int v1), (2, .int v2)], [], σ1)) 15 rfl rfl (trivial) ?_
    refine Rc.pick [3, 5, 1, 0] (lv2 := [(0, .ref 117), (2, .int v2), (4, .int r1), (5, .int 2)]) rfl ?_
    exact m_whole_117_L50_ok hd fu _ _ _ _ _ _ h
  · rw [if_neg c3] at h
    refine Rc.ifn c3 ?_
    refine Rc.blk (c := []) (s2 := (35, [(3, .int s0), (0, .ref 117), (1, .int v1), (2, .int v2)], [.int s0, .ref 117], σ)) 10 rfl rfl (trivial) ?_
    obtain ⟨r2, σ2, hc, h⟩ := bd_some h
    refine Rc.call (Ev.mono d) (v := some (.int r2)) (as := [.ref 117, .int s0]) (r := []) 11 rfl rfl rfl rfl ⟨rfl, Nat.le_of_ble_eq_true rfl⟩ (m_refuse_117_ok (by omega) hc) ?_
    show Rc _ _ _ (38, [(3, .int s0), (0, .ref 117), (1, .int v1), (2, .int v2)], [.int r2], σ2) _
    obtain ⟨rfl, rfl⟩ := some_pair h
    exact Rc.ret 12 rfl rfl rfl trivial ⟨rfl, rfl⟩
theorem m_whole_117_ok {d : Nat} (hd : 7 ≤ d) {v1 : Int32} {v2 : Int32} {σ : Sg} {r : Int32} {σ2 : Sg} (h : m_whole_117 v1 v2 σ = some (r, σ2)) : Ev MT CT d 182 [.ref 117, .int v1, .int v2] σ (fun v s => v = some (.int r) ∧ s = σ2) := by
  obtain ⟨d, rfl⟩ : ∃ e, d = e + 1 := ⟨d - 1, by omega⟩
  refine ⟨Nat.le_of_ble_eq_true rfl, ?_⟩
  show Rc none (Ev MT CT d) sg182 (0, [(0, .ref 117), (1, .int v1), (2, .int v2)], [], σ) _
  unfold m_whole_117 at h
  have hd : 6 ≤ d := by omega
  refine Rc.blk (c := []) (s2 := (3, [(0, .ref 117), (1, .int v1), (2, .int v2)], [.int v2, .int v1, .ref 117], σ)) 0 rfl rfl (trivial) ?_
  obtain ⟨r1, σ1, hc, h⟩ := bd_some h
  refine Rc.call (Ev.mono d) (v := some (.int r1)) (as := [.ref 117, .int v1, .int v2]) (r := []) 1 rfl rfl rfl rfl ⟨rfl, Nat.le_of_ble_eq_true rfl⟩ (m_wrongMust_117_ok (by omega) hc) ?_
  show Rc _ _ _ (6, [(0, .ref 117), (1, .int v1), (2, .int v2)], [.int r1], σ1) _
  refine Rc.blk (c := []) (s2 := (if r1 = 0 then 15 else 11, [(3, .int r1), (0, .ref 117), (1, .int v1), (2, .int v2)], [], σ1)) 2 rfl rfl (trivial) ?_
  by_cases c4 : r1 = 0
  · rw [if_pos c4] at h
    refine Rc.ifp c4 ?_
    refine Rc.blk (c := []) (s2 := (17, [(3, .int r1), (0, .ref 117), (1, .int v1), (2, .int v2)], [.int v1, .ref 117], σ1)) 4 rfl rfl (trivial) ?_
    obtain ⟨r2, σ2, hc, h⟩ := bd_some h
    refine Rc.call (Ev.mono d) (v := some (.int r2)) (as := [.ref 117, .int v1]) (r := []) 5 rfl rfl rfl rfl ⟨rfl, Nat.le_of_ble_eq_true rfl⟩ (m_isScaled_117_ok (by omega) hc) ?_
    show Rc _ _ _ (20, [(3, .int r1), (0, .ref 117), (1, .int v1), (2, .int v2)], [.int r2], σ2) _
    refine Rc.blk (c := []) (s2 := (if r2 = 0 then 27 else 23, [(3, .int r1), (0, .ref 117), (1, .int v1), (2, .int v2)], [], σ2)) 6 rfl rfl (trivial) ?_
    by_cases c3 : r2 = 0
    · rw [if_pos c3] at h
      refine Rc.ifp c3 ?_
      refine Rc.blk (c := []) (s2 := (28, [(3, .int r1), (0, .ref 117), (1, .int v1), (2, .int v2)], [.int 3], σ2)) 8 rfl rfl (trivial) ?_
      refine Rc.pick [1, 2, 3] (lv2 := [(0, .ref 117), (1, .int v1), (2, .int v2)]) rfl ?_
      exact m_whole_117_b28_ok hd _ _ _ _ _ _ h
    · rw [if_neg c3] at h
      refine Rc.ifn c3 ?_
      refine Rc.blk (c := []) (s2 := (28, [(3, .int r1), (0, .ref 117), (1, .int v1), (2, .int v2)], [.int 0], σ2)) 7 rfl rfl (trivial) ?_
      refine Rc.pick [1, 2, 3] (lv2 := [(0, .ref 117), (1, .int v1), (2, .int v2)]) rfl ?_
      exact m_whole_117_b28_ok hd _ _ _ _ _ _ h
  · rw [if_neg c4] at h
    refine Rc.ifn c4 ?_
    refine Rc.blk (c := []) (s2 := (28, [(3, .int r1), (0, .ref 117), (1, .int v1), (2, .int v2)], [.int r1], σ1)) 3 rfl rfl (trivial) ?_
    refine Rc.pick [1, 2, 3] (lv2 := [(0, .ref 117), (1, .int v1), (2, .int v2)]) rfl ?_
    exact m_whole_117_b28_ok hd _ _ _ _ _ _ h
theorem m_off_117_b91_ok {d : Nat} (hd : 6 ≤ d) {k32 : Int32 → Int32 → Int32 → Sg → Option (Int32 × Sg)} (hk32 : ∀ (v1 : Int32) (v2 : Int32) (v3 : Int32) (σ : Sg) (r : Int32) (σ2 : Sg), k32 v1 v2 v3 σ = some (r, σ2) → Rc none (Ev MT CT d) sg183 (32, [(0, .ref 117), (1, .int v1), (2, .int v2), (3, .int v3)], [], σ) (fun v s => v = some (.int r) ∧ s = σ2)) (v1 : Int32) (v2 : Int32) (v3 : Int32) (σ : Sg) (r : Int32) (σ2 : Sg) (h : m_off_117_b91 k32 v1 v2 v3 σ = some (r, σ2)) : Rc none (Ev MT CT d) sg183 (91, [(0, .ref 117), (1, .int v1), (2, .int v2), (3, .int v3)], [], σ) (fun v s => v = some (.int r) ∧ s = σ2) := by
  unfold m_off_117_b91 at h
  refine Rc.blk (c := []) (s2 := (32, [(3, .int (v3 + 1)), (0, .ref 117), (1, .int v1), (2, .int v2)], [], σ)) 28 rfl rfl (trivial) ?_
  refine Rc.pick [1, 2, 3, 0] (lv2 := [(0, .ref 117), (1, .int v1), (2, .int v2), (3, .int (v3 + 1))]) rfl ?_
  exact hk32 _ _ _ _ _ _ h
theorem m_off_117_b89_ok {d : Nat} (hd : 6 ≤ d) {k32 : Int32 → Int32 → Int32 → Sg → Option (Int32 × Sg)} (hk32 : ∀ (v1 : Int32) (v2 : Int32) (v3 : Int32) (σ : Sg) (r : Int32) (σ2 : Sg), k32 v1 v2 v3 σ = some (r, σ2) → Rc none (Ev MT CT d) sg183 (32, [(0, .ref 117), (1, .int v1), (2, .int v2), (3, .int v3)], [], σ) (fun v s => v = some (.int r) ∧ s = σ2)) (v1 : Int32) (v3 : Int32) (s0 : Int32) (s1 : Int32) (σ : Sg) (r : Int32) (σ2 : Sg) (h : m_off_117_b89 k32 v1 v3 s0 s1 σ = some (r, σ2)) : Rc none (Ev MT CT d) sg183 (89, [(0, .ref 117), (1, .int v1), (3, .int v3)], [.int s1, .int s0], σ) (fun v s => v = some (.int r) ∧ s = σ2) := by
  unfold m_off_117_b89 at h
  refine Rc.blk (c := []) (s2 := (91, [(2, .int (s0 ||| s1)), (0, .ref 117), (1, .int v1), (3, .int v3)], [], σ)) 27 rfl rfl (trivial) ?_
  refine Rc.pick [1, 2, 0, 3] (lv2 := [(0, .ref 117), (1, .int v1), (2, .int (s0 ||| s1)), (3, .int v3)]) rfl ?_
  exact m_off_117_b91_ok hd hk32 _ _ _ _ _ _ h
set_option maxRecDepth 100000 in
theorem m_off_117_H32_ok {d : Nat} (hd : 6 ≤ d) {k32 : Int32 → Int32 → Int32 → Sg → Option (Int32 × Sg)} (hk32 : ∀ (v1 : Int32) (v2 : Int32) (v3 : Int32) (σ : Sg) (r : Int32) (σ2 : Sg), k32 v1 v2 v3 σ = some (r, σ2) → Rc none (Ev MT CT d) sg183 (32, [(0, .ref 117), (1, .int v1), (2, .int v2), (3, .int v3)], [], σ) (fun v s => v = some (.int r) ∧ s = σ2)) (v1 : Int32) (v2 : Int32) (v3 : Int32) (σ : Sg) (r : Int32) (σ2 : Sg) (h : m_off_117_H32 k32 v1 v2 v3 σ = some (r, σ2)) : Rc none (Ev MT CT d) sg183 (32, [(0, .ref 117), (1, .int v1), (2, .int v2), (3, .int v3)], [], σ) (fun v s => v = some (.int r) ∧ s = σ2) := by
  unfold m_off_117_H32 at h
  refine Rc.blk (c := [_, _]) (s2 := (if (σ.1 118 0) ≤ v3 then 97 else 42, [(0, .ref 117), (1, .int v1), (2, .int v2), (3, .int v3)], [], σ)) 13 rfl rfl (conj_c (rfl) (conj_c (⟨rfl, inB_in (by decide)⟩) (trivial))) ?_
  by_cases c9 : (σ.1 118 0) ≤ v3
  · rw [if_pos c9] at h
    refine Rc.ifp c9 ?_
    refine Rc.blk (c := []) (s2 := (98, [(0, .ref 117), (1, .int v1), (2, .int v2), (3, .int v3)], [.int v2], σ)) 29 rfl rfl (trivial) ?_
    obtain ⟨rfl, rfl⟩ := some_pair h
    exact Rc.ret 30 rfl rfl rfl trivial ⟨rfl, rfl⟩
  · rw [if_neg c9] at h
    refine Rc.ifn c9 ?_
    refine Rc.blk (c := []) (s2 := (44, [(0, .ref 117), (1, .int v1), (2, .int v2), (3, .int v3)], [.int v3, .int v1], σ)) 14 rfl rfl (trivial) ?_
    obtain ⟨r1, σ1, hc, h⟩ := bd_some h
    refine Rc.call (Ev.mono d) (v := some (.int r1)) (as := [.int v1, .int v3]) (r := []) 15 rfl rfl rfl rfl (Nat.le_of_ble_eq_true rfl) (m_has_s_ok (by omega) hc) ?_
    show Rc _ _ _ (47, [(0, .ref 117), (1, .int v1), (2, .int v2), (3, .int v3)], [.int r1], σ1) _
    refine Rc.blk (c := []) (s2 := (if ¬ r1 = 0 then 91 else 50, [(0, .ref 117), (1, .int v1), (2, .int v2), (3, .int v3)], [], σ1)) 16 rfl rfl (trivial) ?_
    by_cases c8 : r1 = 0
    · rw [if_pos c8] at h
      refine Rc.ifn (fun q => q c8) ?_
      obtain ⟨g2, h⟩ := gd_some h
      refine Rc.blk (c := [_, _]) (s2 := (if (σ1.1 118 (49 + v3).toNatClampNeg) = 0 then 91 else 62, [(0, .ref 117), (1, .int v1), (2, .int v2), (3, .int v3)], [], σ1)) 17 rfl rfl (conj_c (rfl) (conj_c (⟨rfl, inB_in g2⟩) (trivial))) ?_
      by_cases c7 : (σ1.1 118 (49 + v3).toNatClampNeg) = 0
      · rw [if_pos c7] at h
        refine Rc.ifp c7 ?_
        exact m_off_117_b91_ok hd hk32 _ _ _ _ _ _ h
      · rw [if_neg c7] at h
        refine Rc.ifn c7 ?_
        refine Rc.blk (c := []) (s2 := (65, [(0, .ref 117), (1, .int v1), (2, .int v2), (3, .int v3)], [.int v3, .int v1, .ref 117], σ1)) 18 rfl rfl (trivial) ?_
        obtain ⟨r3, σ3, hc, h⟩ := bd_some h
        refine Rc.call (Ev.mono d) (v := some (.int r3)) (as := [.ref 117, .int v1, .int v3]) (r := []) 19 rfl rfl rfl rfl ⟨rfl, Nat.le_of_ble_eq_true rfl⟩ (m_isHad_117_ok (by omega) hc) ?_
        show Rc _ _ _ (68, [(0, .ref 117), (1, .int v1), (2, .int v2), (3, .int v3)], [.int r3], σ3) _
        refine Rc.blk (c := []) (s2 := (if ¬ r3 = 0 then 74 else 71, [(0, .ref 117), (1, .int v1), (2, .int v2), (3, .int v3)], [], σ3)) 20 rfl rfl (trivial) ?_
        by_cases c6 : r3 = 0
        · rw [if_pos c6] at h
          refine Rc.ifn (fun q => q c6) ?_
          refine Rc.blk (c := []) (s2 := (91, [(0, .ref 117), (1, .int v1), (2, .int v2), (3, .int v3)], [], σ3)) 21 rfl rfl (trivial) ?_
          exact m_off_117_b91_ok hd hk32 _ _ _ _ _ _ h
        · rw [if_neg c6] at h
          refine Rc.ifp c6 ?_
          refine Rc.blk (c := []) (s2 := (76, [(0, .ref 117), (1, .int v1), (2, .int v2), (3, .int v3)], [.ref 117, .int v2], σ3)) 22 rfl rfl (trivial) ?_
          obtain ⟨r4, σ4, hc, h⟩ := bd_some h
          refine Rc.call (Ev.mono d) (v := some (.int r4)) (as := [.ref 117]) (r := [.int v2]) 23 rfl rfl rfl rfl ⟨rfl, Nat.le_of_ble_eq_true rfl⟩ (m_isAlike_117_ok (by omega) hc) ?_
          show Rc _ _ _ (79, [(0, .ref 117), (1, .int v1), (2, .int v2), (3, .int v3)], [.int r4, .int v2], σ4) _
          refine Rc.blk (c := []) (s2 := (if r4 = 0 then 86 else 82, [(0, .ref 117), (1, .int v1), (2, .int v2), (3, .int v3)], [.int v2], σ4)) 24 rfl rfl (trivial) ?_
          by_cases c5 : r4 = 0
          · rw [if_pos c5] at h
            refine Rc.ifp c5 ?_
            refine Rc.blk (c := []) (s2 := (89, [(0, .ref 117), (1, .int v1), (2, .int v2), (3, .int v3)], [.int ((1 : Int32) <<< (v3 &&& 31)), .int v2], σ4)) 26 rfl rfl (trivial) ?_
            refine Rc.pick [0, 1, 3] (lv2 := [(0, .ref 117), (1, .int v1), (3, .int v3)]) rfl ?_
            exact m_off_117_b89_ok hd hk32 _ _ _ _ _ _ _ h
          · rw [if_neg c5] at h
            refine Rc.ifn c5 ?_
            refine Rc.blk (c := []) (s2 := (89, [(0, .ref 117), (1, .int v1), (2, .int v2), (3, .int v3)], [.int 0, .int v2], σ4)) 25 rfl rfl (trivial) ?_
            refine Rc.pick [0, 1, 3] (lv2 := [(0, .ref 117), (1, .int v1), (3, .int v3)]) rfl ?_
            exact m_off_117_b89_ok hd hk32 _ _ _ _ _ _ _ h
    · rw [if_neg c8] at h
      refine Rc.ifp c8 ?_
      exact m_off_117_b91_ok hd hk32 _ _ _ _ _ _ h
theorem m_off_117_L32_ok {d : Nat} (hd : 6 ≤ d) : ∀ (n : Nat) (v1 : Int32) (v2 : Int32) (v3 : Int32) (σ : Sg) (r : Int32) (σ2 : Sg), m_off_117_L32 n v1 v2 v3 σ = some (r, σ2) → Rc none (Ev MT CT d) sg183 (32, [(0, .ref 117), (1, .int v1), (2, .int v2), (3, .int v3)], [], σ) (fun v s => v = some (.int r) ∧ s = σ2)
  | 0, _, _, _, _, _, _, h => by cases h
  | n + 1, v1, v2, v3, σ, r, σ2, h => m_off_117_H32_ok hd (m_off_117_L32_ok hd n) v1 v2 v3 σ r σ2 h
theorem m_off_117_ok {d : Nat} (hd : 7 ≤ d) {v1 : Int32} {σ : Sg} {r : Int32} {σ2 : Sg} (h : m_off_117 v1 σ = some (r, σ2)) : Ev MT CT d 183 [.ref 117, .int v1] σ (fun v s => v = some (.int r) ∧ s = σ2) := by
  obtain ⟨d, rfl⟩ : ∃ e, d = e + 1 := ⟨d - 1, by omega⟩
  refine ⟨Nat.le_of_ble_eq_true rfl, ?_⟩
  show Rc none (Ev MT CT d) sg183 (0, [(0, .ref 117), (1, .int v1)], [], σ) _
  unfold m_off_117 at h
  have hd : 6 ≤ d := by omega
  refine Rc.blk (c := []) (s2 := (2, [(0, .ref 117), (1, .int v1)], [.int v1, .ref 117], σ)) 0 rfl rfl (trivial) ?_
  obtain ⟨r1, σ1, hc, h⟩ := bd_some h
  refine Rc.call (Ev.mono d) (v := some (.int r1)) (as := [.ref 117, .int v1]) (r := []) 1 rfl rfl rfl rfl ⟨rfl, Nat.le_of_ble_eq_true rfl⟩ (m_isSet_117_ok (by omega) hc) ?_
  show Rc _ _ _ (5, [(0, .ref 117), (1, .int v1)], [.int r1], σ1) _
  refine Rc.blk (c := []) (s2 := (if ¬ r1 = 0 then 14 else 8, [(0, .ref 117), (1, .int v1)], [], σ1)) 2 rfl rfl (trivial) ?_
  by_cases c6 : r1 = 0
  · rw [if_pos c6] at h
    refine Rc.ifn (fun q => q c6) ?_
    refine Rc.blk (c := []) (s2 := (10, [(0, .ref 117), (1, .int v1)], [.int 1, .ref 117], σ1)) 3 rfl rfl (trivial) ?_
    obtain ⟨r5, σ5, hc, h⟩ := bd_some h
    refine Rc.call (Ev.mono d) (v := some (.int r5)) (as := [.ref 117, .int 1]) (r := []) 4 rfl rfl rfl rfl ⟨rfl, Nat.le_of_ble_eq_true rfl⟩ (m_refuse_117_ok (by omega) hc) ?_
    show Rc _ _ _ (13, [(0, .ref 117), (1, .int v1)], [.int r5], σ5) _
    obtain ⟨rfl, rfl⟩ := some_pair h
    exact Rc.ret 5 rfl rfl rfl trivial ⟨rfl, rfl⟩
  · rw [if_neg c6] at h
    refine Rc.ifp c6 ?_
    refine Rc.blk (c := []) (s2 := (16, [(0, .ref 117), (1, .int v1)], [.int v1, .ref 117], σ1)) 6 rfl rfl (trivial) ?_
    obtain ⟨r2, σ2, hc, h⟩ := bd_some h
    refine Rc.call (Ev.mono d) (v := some (.int r2)) (as := [.ref 117, .int v1]) (r := []) 7 rfl rfl rfl rfl ⟨rfl, Nat.le_of_ble_eq_true rfl⟩ (m_isScaled_117_ok (by omega) hc) ?_
    show Rc _ _ _ (19, [(0, .ref 117), (1, .int v1)], [.int r2], σ2) _
    refine Rc.blk (c := []) (s2 := (if ¬ r2 = 0 then 28 else 22, [(0, .ref 117), (1, .int v1)], [], σ2)) 8 rfl rfl (trivial) ?_
    by_cases c4 : r2 = 0
    · rw [if_pos c4] at h
      refine Rc.ifn (fun q => q c4) ?_
      refine Rc.blk (c := []) (s2 := (24, [(0, .ref 117), (1, .int v1)], [.int 3, .ref 117], σ2)) 9 rfl rfl (trivial) ?_
      obtain ⟨r3, σ3, hc, h⟩ := bd_some h
      refine Rc.call (Ev.mono d) (v := some (.int r3)) (as := [.ref 117, .int 3]) (r := []) 10 rfl rfl rfl rfl ⟨rfl, Nat.le_of_ble_eq_true rfl⟩ (m_refuse_117_ok (by omega) hc) ?_
      show Rc _ _ _ (27, [(0, .ref 117), (1, .int v1)], [.int r3], σ3) _
      obtain ⟨rfl, rfl⟩ := some_pair h
      exact Rc.ret 11 rfl rfl rfl trivial ⟨rfl, rfl⟩
    · rw [if_neg c4] at h
      refine Rc.ifp c4 ?_
      refine Rc.blk (c := []) (s2 := (32, [(3, .int 0), (2, .int 0), (0, .ref 117), (1, .int v1)], [], σ2)) 12 rfl rfl (trivial) ?_
      refine Rc.pick [2, 3, 1, 0] (lv2 := [(0, .ref 117), (1, .int v1), (2, .int 0), (3, .int 0)]) rfl ?_
      exact m_off_117_L32_ok hd fu _ _ _ _ _ _ h
theorem m_powerBy_117_b48_ok {d : Nat} (hd : 1 ≤ d) {k5 : Int32 → Int32 → Int32 → Int32 → Sg → Option (Int32 × Sg)} (hk5 : ∀ (v1 : Int32) (v2 : Int32) (v3 : Int32) (v4 : Int32) (σ : Sg) (r : Int32) (σ2 : Sg), k5 v1 v2 v3 v4 σ = some (r, σ2) → Rc none (Ev MT CT d) sg184 (5, [(0, .ref 117), (1, .int v1), (2, .int v2), (3, .int v3), (4, .int v4)], [], σ) (fun v s => v = some (.int r) ∧ s = σ2)) (v1 : Int32) (v2 : Int32) (v4 : Int32) (s0 : Int32) (s1 : Int32) (σ : Sg) (r : Int32) (σ2 : Sg) (h : m_powerBy_117_b48 k5 v1 v2 v4 s0 s1 σ = some (r, σ2)) : Rc none (Ev MT CT d) sg184 (48, [(0, .ref 117), (1, .int v1), (2, .int v2), (4, .int v4)], [.int s1, .int s0], σ) (fun v s => v = some (.int r) ∧ s = σ2) := by
  unfold m_powerBy_117_b48 at h
  refine Rc.blk (c := []) (s2 := (5, [(4, .int (v4 + 1)), (3, .int (s0 + s1)), (0, .ref 117), (1, .int v1), (2, .int v2)], [], σ)) 7 rfl rfl (trivial) ?_
  refine Rc.pick [2, 3, 4, 1, 0] (lv2 := [(0, .ref 117), (1, .int v1), (2, .int v2), (3, .int (s0 + s1)), (4, .int (v4 + 1))]) rfl ?_
  exact hk5 _ _ _ _ _ _ _ h
theorem m_powerBy_117_H5_ok {d : Nat} (hd : 1 ≤ d) {k5 : Int32 → Int32 → Int32 → Int32 → Sg → Option (Int32 × Sg)} (hk5 : ∀ (v1 : Int32) (v2 : Int32) (v3 : Int32) (v4 : Int32) (σ : Sg) (r : Int32) (σ2 : Sg), k5 v1 v2 v3 v4 σ = some (r, σ2) → Rc none (Ev MT CT d) sg184 (5, [(0, .ref 117), (1, .int v1), (2, .int v2), (3, .int v3), (4, .int v4)], [], σ) (fun v s => v = some (.int r) ∧ s = σ2)) (v1 : Int32) (v2 : Int32) (v3 : Int32) (v4 : Int32) (σ : Sg) (r : Int32) (σ2 : Sg) (h : m_powerBy_117_H5 k5 v1 v2 v3 v4 σ = some (r, σ2)) : Rc none (Ev MT CT d) sg184 (5, [(0, .ref 117), (1, .int v1), (2, .int v2), (3, .int v3), (4, .int v4)], [], σ) (fun v s => v = some (.int r) ∧ s = σ2) := by
  unfold m_powerBy_117_H5 at h
  refine Rc.blk (c := []) (s2 := (if v1 ≤ v4 then 56 else 11, [(0, .ref 117), (1, .int v1), (2, .int v2), (3, .int v3), (4, .int v4)], [], σ)) 1 rfl rfl (trivial) ?_
  by_cases c5 : v1 ≤ v4
  · rw [if_pos c5] at h
    refine Rc.ifp c5 ?_
    refine Rc.blk (c := []) (s2 := (57, [(0, .ref 117), (1, .int v1), (2, .int v2), (3, .int v3), (4, .int v4)], [.int v3], σ)) 8 rfl rfl (trivial) ?_
    obtain ⟨rfl, rfl⟩ := some_pair h
    exact Rc.ret 9 rfl rfl rfl trivial ⟨rfl, rfl⟩
  · rw [if_neg c5] at h
    refine Rc.ifn c5 ?_
    obtain ⟨g1, h⟩ := gd_some h
    refine Rc.blk (c := [_, _, _]) (s2 := (22, [(0, .ref 117), (1, .int v1), (2, .int v2), (3, .int v3), (4, .int v4)], [.int v2, .int ((σ.1 129 v4.toNatClampNeg) / 2), .ref 117], σ)) 2 rfl rfl (conj_c (rfl) (conj_c (⟨rfl, inB_in g1⟩) (conj_c ((by decide)) (trivial)))) ?_
    obtain ⟨r2, σ2, hc, h⟩ := bd_some h
    refine Rc.call (Ev.mono d) (v := some (.int r2)) (as := [.ref 117, .int ((σ.1 129 v4.toNatClampNeg) / 2), .int v2]) (r := []) 3 rfl rfl rfl rfl ⟨rfl, Nat.le_of_ble_eq_true rfl⟩ (m_powerOf_117_ok (by omega) hc) ?_
    show Rc _ _ _ (25, [(0, .ref 117), (1, .int v1), (2, .int v2), (3, .int v3), (4, .int v4)], [.int r2], σ2) _
    obtain ⟨g3, h⟩ := gd_some h
    refine Rc.blk (c := [_, _, _]) (s2 := (if ¬ (irm (σ2.1 129 v4.toNatClampNeg) 2) = 0 then 45 else 40, [(5, .int r2), (0, .ref 117), (1, .int v1), (2, .int v2), (3, .int v3), (4, .int v4)], [.int v3], σ2)) 4 rfl rfl (conj_c (rfl) (conj_c (⟨rfl, inB_in g3⟩) (conj_c ((by decide)) (trivial)))) ?_
    by_cases c4 : (irm (σ2.1 129 v4.toNatClampNeg) 2) = 0
    · rw [if_pos c4] at h
      refine Rc.ifn (fun q => q c4) ?_
      refine Rc.blk (c := []) (s2 := (48, [(5, .int r2), (0, .ref 117), (1, .int v1), (2, .int v2), (3, .int v3), (4, .int v4)], [.int r2, .int v3], σ2)) 5 rfl rfl (trivial) ?_
      refine Rc.pick [1, 2, 3, 5] (lv2 := [(0, .ref 117), (1, .int v1), (2, .int v2), (4, .int v4)]) rfl ?_
      exact m_powerBy_117_b48_ok hd hk5 _ _ _ _ _ _ _ _ h
    · rw [if_neg c4] at h
      refine Rc.ifp c4 ?_
      refine Rc.blk (c := []) (s2 := (48, [(5, .int r2), (0, .ref 117), (1, .int v1), (2, .int v2), (3, .int v3), (4, .int v4)], [.int (-r2), .int v3], σ2)) 6 rfl rfl (trivial) ?_
      refine Rc.pick [1, 2, 3, 5] (lv2 := [(0, .ref 117), (1, .int v1), (2, .int v2), (4, .int v4)]) rfl ?_
      exact m_powerBy_117_b48_ok hd hk5 _ _ _ _ _ _ _ _ h
theorem m_powerBy_117_L5_ok {d : Nat} (hd : 1 ≤ d) : ∀ (n : Nat) (v1 : Int32) (v2 : Int32) (v3 : Int32) (v4 : Int32) (σ : Sg) (r : Int32) (σ2 : Sg), m_powerBy_117_L5 n v1 v2 v3 v4 σ = some (r, σ2) → Rc none (Ev MT CT d) sg184 (5, [(0, .ref 117), (1, .int v1), (2, .int v2), (3, .int v3), (4, .int v4)], [], σ) (fun v s => v = some (.int r) ∧ s = σ2)
  | 0, _, _, _, _, _, _, _, h => by cases h
  | n + 1, v1, v2, v3, v4, σ, r, σ2, h => m_powerBy_117_H5_ok hd (m_powerBy_117_L5_ok hd n) v1 v2 v3 v4 σ r σ2 h
theorem m_powerBy_117_ok {d : Nat} (hd : 2 ≤ d) {v1 : Int32} {v2 : Int32} {σ : Sg} {r : Int32} {σ2 : Sg} (h : m_powerBy_117 v1 v2 σ = some (r, σ2)) : Ev MT CT d 184 [.ref 117, .int v1, .int v2] σ (fun v s => v = some (.int r) ∧ s = σ2) := by
  obtain ⟨d, rfl⟩ : ∃ e, d = e + 1 := ⟨d - 1, by omega⟩
  refine ⟨Nat.le_of_ble_eq_true rfl, ?_⟩
  show Rc none (Ev MT CT d) sg184 (0, [(0, .ref 117), (1, .int v1), (2, .int v2)], [], σ) _
  unfold m_powerBy_117 at h
  have hd : 1 ≤ d := by omega
  refine Rc.blk (c := []) (s2 := (5, [(4, .int 0), (3, .int 0), (0, .ref 117), (1, .int v1), (2, .int v2)], [], σ)) 0 rfl rfl (trivial) ?_
  refine Rc.pick [2, 3, 4, 1, 0] (lv2 := [(0, .ref 117), (1, .int v1), (2, .int v2), (3, .int 0), (4, .int 0)]) rfl ?_
  exact m_powerBy_117_L5_ok hd fu _ _ _ _ _ _ _ h
theorem m_isWanted_117_b30_ok {d : Nat} (hd : 2 ≤ d) {k4 : Int32 → Int32 → Int32 → Sg → Option (Int32 × Sg)} (hk4 : ∀ (v1 : Int32) (v2 : Int32) (v3 : Int32) (σ : Sg) (r : Int32) (σ2 : Sg), k4 v1 v2 v3 σ = some (r, σ2) → Rc none (Ev MT CT d) sg185 (4, [(0, .ref 117), (1, .int v1), (2, .int v2), (3, .int v3)], [], σ) (fun v s => v = some (.int r) ∧ s = σ2)) (v1 : Int32) (v3 : Int32) (s0 : Int32) (s1 : Int32) (σ : Sg) (r : Int32) (σ2 : Sg) (h : m_isWanted_117_b30 k4 v1 v3 s0 s1 σ = some (r, σ2)) : Rc none (Ev MT CT d) sg185 (30, [(0, .ref 117), (1, .int v1), (3, .int v3)], [.int s1, .int s0], σ) (fun v s => v = some (.int r) ∧ s = σ2) := by
  unfold m_isWanted_117_b30 at h
  refine Rc.blk (c := []) (s2 := (4, [(3, .int (v3 + 1)), (2, .int (s0 &&& s1)), (0, .ref 117), (1, .int v1)], [], σ)) 7 rfl rfl (trivial) ?_
  refine Rc.pick [2, 3, 1, 0] (lv2 := [(0, .ref 117), (1, .int v1), (2, .int (s0 &&& s1)), (3, .int (v3 + 1))]) rfl ?_
  exact hk4 _ _ _ _ _ _ h
theorem m_isWanted_117_H4_ok {d : Nat} (hd : 2 ≤ d) {k4 : Int32 → Int32 → Int32 → Sg → Option (Int32 × Sg)} (hk4 : ∀ (v1 : Int32) (v2 : Int32) (v3 : Int32) (σ : Sg) (r : Int32) (σ2 : Sg), k4 v1 v2 v3 σ = some (r, σ2) → Rc none (Ev MT CT d) sg185 (4, [(0, .ref 117), (1, .int v1), (2, .int v2), (3, .int v3)], [], σ) (fun v s => v = some (.int r) ∧ s = σ2)) (v1 : Int32) (v2 : Int32) (v3 : Int32) (σ : Sg) (r : Int32) (σ2 : Sg) (h : m_isWanted_117_H4 k4 v1 v2 v3 σ = some (r, σ2)) : Rc none (Ev MT CT d) sg185 (4, [(0, .ref 117), (1, .int v1), (2, .int v2), (3, .int v3)], [], σ) (fun v s => v = some (.int r) ∧ s = σ2) := by
  unfold m_isWanted_117_H4 at h
  refine Rc.blk (c := []) (s2 := (if 5 ≤ v3 then 38 else 9, [(0, .ref 117), (1, .int v1), (2, .int v2), (3, .int v3)], [], σ)) 1 rfl rfl (trivial) ?_
  by_cases c4 : 5 ≤ v3
  · rw [if_pos c4] at h
    refine Rc.ifp c4 ?_
    refine Rc.blk (c := []) (s2 := (39, [(0, .ref 117), (1, .int v1), (2, .int v2), (3, .int v3)], [.int v2], σ)) 8 rfl rfl (trivial) ?_
    obtain ⟨g, h⟩ := gd_some h
    obtain ⟨rfl, rfl⟩ := some_pair h
    exact Rc.ret 9 rfl rfl rfl (nbB_ok g) ⟨rfl, rfl⟩
  · rw [if_neg c4] at h
    refine Rc.ifn c4 ?_
    refine Rc.blk (c := []) (s2 := (13, [(0, .ref 117), (1, .int v1), (2, .int v2), (3, .int v3)], [.int v3, .int v1, .ref 117, .int v2], σ)) 2 rfl rfl (trivial) ?_
    obtain ⟨r1, σ1, hc, h⟩ := bd_some h
    refine Rc.call (Ev.mono d) (v := some (.int r1)) (as := [.ref 117, .int v1, .int v3]) (r := [.int v2]) 3 rfl rfl rfl rfl ⟨rfl, Nat.le_of_ble_eq_true rfl⟩ (m_powerBy_117_ok (by omega) hc) ?_
    show Rc _ _ _ (16, [(0, .ref 117), (1, .int v1), (2, .int v2), (3, .int v3)], [.int r1, .int v2], σ1) _
    obtain ⟨g2, h⟩ := gd_some h
    refine Rc.blk (c := [_, _]) (s2 := (if ¬ r1 = (σ1.1 130 v3.toNatClampNeg) then 29 else 25, [(0, .ref 117), (1, .int v1), (2, .int v2), (3, .int v3)], [.int v2], σ1)) 4 rfl rfl (conj_c (rfl) (conj_c (⟨rfl, inB_in g2⟩) (trivial))) ?_
    by_cases c3 : r1 = (σ1.1 130 v3.toNatClampNeg)
    · rw [if_pos c3] at h
      refine Rc.ifn (fun q => q c3) ?_
      refine Rc.blk (c := []) (s2 := (30, [(0, .ref 117), (1, .int v1), (2, .int v2), (3, .int v3)], [.int 1, .int v2], σ1)) 5 rfl rfl (trivial) ?_
      refine Rc.pick [0, 1, 3] (lv2 := [(0, .ref 117), (1, .int v1), (3, .int v3)]) rfl ?_
      exact m_isWanted_117_b30_ok hd hk4 _ _ _ _ _ _ _ h
    · rw [if_neg c3] at h
      refine Rc.ifp c3 ?_
      refine Rc.blk (c := []) (s2 := (30, [(0, .ref 117), (1, .int v1), (2, .int v2), (3, .int v3)], [.int 0, .int v2], σ1)) 6 rfl rfl (trivial) ?_
      refine Rc.pick [0, 1, 3] (lv2 := [(0, .ref 117), (1, .int v1), (3, .int v3)]) rfl ?_
      exact m_isWanted_117_b30_ok hd hk4 _ _ _ _ _ _ _ h
theorem m_isWanted_117_L4_ok {d : Nat} (hd : 2 ≤ d) : ∀ (n : Nat) (v1 : Int32) (v2 : Int32) (v3 : Int32) (σ : Sg) (r : Int32) (σ2 : Sg), m_isWanted_117_L4 n v1 v2 v3 σ = some (r, σ2) → Rc none (Ev MT CT d) sg185 (4, [(0, .ref 117), (1, .int v1), (2, .int v2), (3, .int v3)], [], σ) (fun v s => v = some (.int r) ∧ s = σ2)
  | 0, _, _, _, _, _, _, h => by cases h
  | n + 1, v1, v2, v3, σ, r, σ2, h => m_isWanted_117_H4_ok hd (m_isWanted_117_L4_ok hd n) v1 v2 v3 σ r σ2 h
theorem m_isWanted_117_ok {d : Nat} (hd : 3 ≤ d) {v1 : Int32} {σ : Sg} {r : Int32} {σ2 : Sg} (h : m_isWanted_117 v1 σ = some (r, σ2)) : Ev MT CT d 185 [.ref 117, .int v1] σ (fun v s => v = some (.int r) ∧ s = σ2) := by
  obtain ⟨d, rfl⟩ : ∃ e, d = e + 1 := ⟨d - 1, by omega⟩
  refine ⟨Nat.le_of_ble_eq_true rfl, ?_⟩
  show Rc none (Ev MT CT d) sg185 (0, [(0, .ref 117), (1, .int v1)], [], σ) _
  unfold m_isWanted_117 at h
  have hd : 2 ≤ d := by omega
  refine Rc.blk (c := []) (s2 := (4, [(3, .int 0), (2, .int 1), (0, .ref 117), (1, .int v1)], [], σ)) 0 rfl rfl (trivial) ?_
  refine Rc.pick [2, 3, 1, 0] (lv2 := [(0, .ref 117), (1, .int v1), (2, .int 1), (3, .int 0)]) rfl ?_
  exact m_isWanted_117_L4_ok hd fu _ _ _ _ _ _ h
theorem m_fills_117_H13_ok (d0 : Nat) (rs : Int32 → Int32 → Sg → Option (Int32 × Sg)) (hrs : ∀ (v1 : Int32) (v2 : Int32) (σ : Sg) (r : Int32) (σ2 : Sg), rs v1 v2 σ = some (r, σ2) → Ev MT CT d0 186 [.ref 117, .int v1, .int v2] σ (fun v s => v = some (.int r) ∧ s = σ2)) {d : Nat} (hd : 3 ≤ d) (hd0 : d0 + 0 ≤ d) {k13 : Int32 → Int32 → Int32 → Sg → Option (Int32 × Sg)} (hk13 : ∀ (v1 : Int32) (v2 : Int32) (v3 : Int32) (σ : Sg) (r : Int32) (σ2 : Sg), k13 v1 v2 v3 σ = some (r, σ2) → Rc none (Ev MT CT d) sg186 (13, [(0, .ref 117), (1, .int v1), (2, .int v2), (3, .int v3)], [], σ) (fun v s => v = some (.int r) ∧ s = σ2)) (v1 : Int32) (v2 : Int32) (v3 : Int32) (σ : Sg) (r : Int32) (σ2 : Sg) (h : m_fills_117_H13 rs k13 v1 v2 v3 σ = some (r, σ2)) : Rc none (Ev MT CT d) sg186 (13, [(0, .ref 117), (1, .int v1), (2, .int v2), (3, .int v3)], [], σ) (fun v s => v = some (.int r) ∧ s = σ2) := by
  unfold m_fills_117_H13 at h
  refine Rc.blk (c := [_, _]) (s2 := (if (2 * (σ.1 118 0)) ≤ v3 then 51 else 25, [(0, .ref 117), (1, .int v1), (2, .int v2), (3, .int v3)], [], σ)) 5 rfl rfl (conj_c (rfl) (conj_c (⟨rfl, inB_in (by decide)⟩) (trivial))) ?_
  by_cases c4 : (2 * (σ.1 118 0)) ≤ v3
  · rw [if_pos c4] at h
    refine Rc.ifp c4 ?_
    refine Rc.blk (c := []) (s2 := (52, [(0, .ref 117), (1, .int v1), (2, .int v2), (3, .int v3)], [.int 0], σ)) 12 rfl rfl (trivial) ?_
    obtain ⟨rfl, rfl⟩ := some_pair h
    exact Rc.ret 13 rfl rfl rfl (Or.inl rfl) ⟨rfl, rfl⟩
  · rw [if_neg c4] at h
    refine Rc.ifn c4 ?_
    obtain ⟨g1, h⟩ := gd_some h
    refine Rc.blk (c := [_, _]) (s2 := (37, [(0, .ref 117), (1, .int v1), (2, .int v2), (3, .int v3)], [.int v2, .int (v1 + 1), .ref 117], si σ 129 v1.toNatClampNeg v3)) 6 rfl rfl (conj_c (rfl) (conj_c (⟨rfl, inB_in g1⟩) (trivial))) ?_
    obtain ⟨r2, σ2, hc, h⟩ := bd_some h
    refine Rc.call (Ev.mono d) (v := some (.int r2)) (as := [.ref 117, .int (v1 + 1), .int v2]) (r := []) 7 rfl rfl rfl rfl ⟨rfl, Nat.le_of_ble_eq_true rfl⟩ (Ev.le (by omega) (hrs _ _ _ _ _ hc)) ?_
    show Rc _ _ _ (40, [(0, .ref 117), (1, .int v1), (2, .int v2), (3, .int v3)], [.int r2], σ2) _
    refine Rc.blk (c := []) (s2 := (if r2 = 0 then 45 else 43, [(0, .ref 117), (1, .int v1), (2, .int v2), (3, .int v3)], [], σ2)) 8 rfl rfl (trivial) ?_
    by_cases c3 : r2 = 0
    · rw [if_pos c3] at h
      refine Rc.ifp c3 ?_
      refine Rc.blk (c := []) (s2 := (13, [(3, .int (v3 + 1)), (0, .ref 117), (1, .int v1), (2, .int v2)], [], σ2)) 11 rfl rfl (trivial) ?_
      refine Rc.pick [1, 2, 3, 0] (lv2 := [(0, .ref 117), (1, .int v1), (2, .int v2), (3, .int (v3 + 1))]) rfl ?_
      exact hk13 _ _ _ _ _ _ h
    · rw [if_neg c3] at h
      refine Rc.ifn c3 ?_
      refine Rc.blk (c := []) (s2 := (44, [(0, .ref 117), (1, .int v1), (2, .int v2), (3, .int v3)], [.int 1], σ2)) 9 rfl rfl (trivial) ?_
      obtain ⟨rfl, rfl⟩ := some_pair h
      exact Rc.ret 10 rfl rfl rfl (Or.inr rfl) ⟨rfl, rfl⟩
theorem m_fills_117_L13_ok (d0 : Nat) (rs : Int32 → Int32 → Sg → Option (Int32 × Sg)) (hrs : ∀ (v1 : Int32) (v2 : Int32) (σ : Sg) (r : Int32) (σ2 : Sg), rs v1 v2 σ = some (r, σ2) → Ev MT CT d0 186 [.ref 117, .int v1, .int v2] σ (fun v s => v = some (.int r) ∧ s = σ2)) {d : Nat} (hd : 3 ≤ d) (hd0 : d0 + 0 ≤ d) : ∀ (n : Nat) (v1 : Int32) (v2 : Int32) (v3 : Int32) (σ : Sg) (r : Int32) (σ2 : Sg), m_fills_117_L13 rs n v1 v2 v3 σ = some (r, σ2) → Rc none (Ev MT CT d) sg186 (13, [(0, .ref 117), (1, .int v1), (2, .int v2), (3, .int v3)], [], σ) (fun v s => v = some (.int r) ∧ s = σ2)
  | 0, _, _, _, _, _, _, h => by cases h
  | n + 1, v1, v2, v3, σ, r, σ2, h => m_fills_117_H13_ok d0 rs hrs hd hd0 (m_fills_117_L13_ok d0 rs hrs hd hd0 n) v1 v2 v3 σ r σ2 h
theorem m_fills_117_H_ok (d0 : Nat) (rs : Int32 → Int32 → Sg → Option (Int32 × Sg)) (hrs : ∀ (v1 : Int32) (v2 : Int32) (σ : Sg) (r : Int32) (σ2 : Sg), rs v1 v2 σ = some (r, σ2) → Ev MT CT d0 186 [.ref 117, .int v1, .int v2] σ (fun v s => v = some (.int r) ∧ s = σ2)) {d : Nat} (hd : 4 ≤ d) (hd0 : d0 + 1 ≤ d) {v1 : Int32} {v2 : Int32} {σ : Sg} {r : Int32} {σ2 : Sg} (h : m_fills_117_H rs v1 v2 σ = some (r, σ2)) : Ev MT CT d 186 [.ref 117, .int v1, .int v2] σ (fun v s => v = some (.int r) ∧ s = σ2) := by
  obtain ⟨d, rfl⟩ : ∃ e, d = e + 1 := ⟨d - 1, by omega⟩
  refine ⟨Nat.le_of_ble_eq_true rfl, ?_⟩
  show Rc none (Ev MT CT d) sg186 (0, [(0, .ref 117), (1, .int v1), (2, .int v2)], [], σ) _
  unfold m_fills_117_H at h
  have hd : 3 ≤ d := by omega
  have hd0 : d0 + 0 ≤ d := by omega
  refine Rc.blk (c := []) (s2 := (if ¬ v1 = v2 then 11 else 5, [(0, .ref 117), (1, .int v1), (2, .int v2)], [], σ)) 0 rfl rfl (trivial) ?_
  by_cases c2 : v1 = v2
  · rw [if_pos c2] at h
    refine Rc.ifn (fun q => q c2) ?_
    refine Rc.blk (c := []) (s2 := (7, [(0, .ref 117), (1, .int v1), (2, .int v2)], [.int v2, .ref 117], σ)) 1 rfl rfl (trivial) ?_
    obtain ⟨r1, σ1, hc, h⟩ := bd_some h
    refine Rc.call (Ev.mono d) (v := some (.int r1)) (as := [.ref 117, .int v2]) (r := []) 2 rfl rfl rfl rfl ⟨rfl, Nat.le_of_ble_eq_true rfl⟩ (m_isWanted_117_ok (by omega) hc) ?_
    show Rc _ _ _ (10, [(0, .ref 117), (1, .int v1), (2, .int v2)], [.int r1], σ1) _
    obtain ⟨g, h⟩ := gd_some h
    obtain ⟨rfl, rfl⟩ := some_pair h
    exact Rc.ret 3 rfl rfl rfl (nbB_ok g) ⟨rfl, rfl⟩
  · rw [if_neg c2] at h
    refine Rc.ifp c2 ?_
    refine Rc.blk (c := []) (s2 := (13, [(3, .int 0), (0, .ref 117), (1, .int v1), (2, .int v2)], [], σ)) 4 rfl rfl (trivial) ?_
    refine Rc.pick [1, 2, 3, 0] (lv2 := [(0, .ref 117), (1, .int v1), (2, .int v2), (3, .int 0)]) rfl ?_
    exact m_fills_117_L13_ok d0 rs hrs hd hd0 fu _ _ _ _ _ _ h
theorem m_fills_117_lv : ∀ (n : Nat) (v1 : Int32) (v2 : Int32) (σ : Sg) (r : Int32) (σ2 : Sg), m_fills_117 n v1 v2 σ = some (r, σ2) → Ev MT CT (4 + 1 * n) 186 [.ref 117, .int v1, .int v2] σ (fun v s => v = some (.int r) ∧ s = σ2)
  | 0, _, _, _, _, _, h => by cases h
  | n + 1, v1, v2, σ, r, σ2, h => m_fills_117_H_ok (4 + 1 * n) (m_fills_117 n) (m_fills_117_lv n) (by omega) (by omega) h
theorem m_fills_117_top {d : Nat} (hd : 16 ≤ d) {v1 : Int32} {v2 : Int32} {σ : Sg} {r : Int32} {σ2 : Sg} (h : m_fills_117 12 v1 v2 σ = some (r, σ2)) : Ev MT CT d 186 [.ref 117, .int v1, .int v2] σ (fun v s => v = some (.int r) ∧ s = σ2) := Ev.le (by omega) (m_fills_117_lv 12 v1 v2 σ r σ2 h)
theorem m_fewestOf_117_b40_ok {d : Nat} (hd : 16 ≤ d) (s0 : Int32) (σ : Sg) (r : Int32) (σ2 : Sg) (h : m_fewestOf_117_b40 s0 σ = some (r, σ2)) : Rc none (Ev MT CT d) sg187 (40, [], [.int s0], σ) (fun v s => v = some (.int r) ∧ s = σ2) := by
  unfold m_fewestOf_117_b40 at h
  obtain ⟨rfl, rfl⟩ := some_pair h
  exact Rc.ret 10 rfl rfl rfl trivial ⟨rfl, rfl⟩
theorem m_fewestOf_117_H2_ok {d : Nat} (hd : 16 ≤ d) {k2 : Int32 → Int32 → Sg → Option (Int32 × Sg)} (hk2 : ∀ (v1 : Int32) (v2 : Int32) (σ : Sg) (r : Int32) (σ2 : Sg), k2 v1 v2 σ = some (r, σ2) → Rc none (Ev MT CT d) sg187 (2, [(0, .ref 117), (1, .int v1), (2, .int v2)], [], σ) (fun v s => v = some (.int r) ∧ s = σ2)) (v1 : Int32) (v2 : Int32) (σ : Sg) (r : Int32) (σ2 : Sg) (h : m_fewestOf_117_H2 k2 v1 v2 σ = some (r, σ2)) : Rc none (Ev MT CT d) sg187 (2, [(0, .ref 117), (1, .int v1), (2, .int v2)], [], σ) (fun v s => v = some (.int r) ∧ s = σ2) := by
  unfold m_fewestOf_117_H2 at h
  refine Rc.blk (c := []) (s2 := (if 3 < v2 then 47 else 7, [(0, .ref 117), (1, .int v1), (2, .int v2)], [], σ)) 1 rfl rfl (trivial) ?_
  by_cases c6 : 3 < v2
  · rw [if_pos c6] at h
    refine Rc.ifp c6 ?_
    refine Rc.blk (c := []) (s2 := (49, [(0, .ref 117), (1, .int v1), (2, .int v2)], [.int (-9)], σ)) 12 rfl rfl (trivial) ?_
    obtain ⟨rfl, rfl⟩ := some_pair h
    exact Rc.ret 13 rfl rfl rfl trivial ⟨rfl, rfl⟩
  · rw [if_neg c6] at h
    refine Rc.ifn c6 ?_
    refine Rc.blk (c := []) (s2 := (10, [(0, .ref 117), (1, .int v1), (2, .int v2)], [.int v2, .int 0, .ref 117], σ)) 2 rfl rfl (trivial) ?_
    obtain ⟨r1, σ1, hc, h⟩ := bd_some h
    refine Rc.call (Ev.mono d) (v := some (.int r1)) (as := [.ref 117, .int 0, .int v2]) (r := []) 3 rfl rfl rfl rfl ⟨rfl, Nat.le_of_ble_eq_true rfl⟩ (m_fills_117_top (by omega) hc) ?_
    show Rc _ _ _ (13, [(0, .ref 117), (1, .int v1), (2, .int v2)], [.int r1], σ1) _
    refine Rc.blk (c := []) (s2 := (if r1 = 0 then 41 else 16, [(0, .ref 117), (1, .int v1), (2, .int v2)], [], σ1)) 4 rfl rfl (trivial) ?_
    by_cases c5 : r1 = 0
    · rw [if_pos c5] at h
      refine Rc.ifp c5 ?_
      refine Rc.blk (c := []) (s2 := (2, [(2, .int (v2 + 1)), (0, .ref 117), (1, .int v1)], [], σ1)) 11 rfl rfl (trivial) ?_
      refine Rc.pick [1, 2, 0] (lv2 := [(0, .ref 117), (1, .int v1), (2, .int (v2 + 1))]) rfl ?_
      exact hk2 _ _ _ _ _ h
    · rw [if_neg c5] at h
      refine Rc.ifn c5 ?_
      refine Rc.blk (c := []) (s2 := (if 0 ≤ v1 then 24 else 20, [(0, .ref 117), (1, .int v1), (2, .int v2)], [], σ1)) 5 rfl rfl (trivial) ?_
      by_cases c4 : 0 ≤ v1
      · rw [if_pos c4] at h
        refine Rc.ifp c4 ?_
        refine Rc.blk (c := []) (s2 := (if v2 ≤ v1 then 38 else 29, [(0, .ref 117), (1, .int v1), (2, .int v2)], [], σ1)) 7 rfl rfl (trivial) ?_
        by_cases c3 : v2 ≤ v1
        · rw [if_pos c3] at h
          refine Rc.ifp c3 ?_
          refine Rc.blk (c := []) (s2 := (40, [(0, .ref 117), (1, .int v1), (2, .int v2)], [.int (-9)], σ1)) 9 rfl rfl (trivial) ?_
          refine Rc.pick [] (lv2 := []) rfl ?_
          exact m_fewestOf_117_b40_ok hd _ _ _ _ h
        · rw [if_neg c3] at h
          refine Rc.ifn c3 ?_
          obtain ⟨g2, h⟩ := gd_some h
          refine Rc.blk (c := [_, _]) (s2 := (40, [(0, .ref 117), (1, .int v1), (2, .int v2)], [.int (σ1.1 129 v1.toNatClampNeg)], σ1)) 8 rfl rfl (conj_c (rfl) (conj_c (⟨rfl, inB_in g2⟩) (trivial))) ?_
          refine Rc.pick [] (lv2 := []) rfl ?_
          exact m_fewestOf_117_b40_ok hd _ _ _ _ h
      · rw [if_neg c4] at h
        refine Rc.ifn c4 ?_
        refine Rc.blk (c := []) (s2 := (40, [(0, .ref 117), (1, .int v1), (2, .int v2)], [.int v2], σ1)) 6 rfl rfl (trivial) ?_
        refine Rc.pick [] (lv2 := []) rfl ?_
        exact m_fewestOf_117_b40_ok hd _ _ _ _ h
theorem m_fewestOf_117_L2_ok {d : Nat} (hd : 16 ≤ d) : ∀ (n : Nat) (v1 : Int32) (v2 : Int32) (σ : Sg) (r : Int32) (σ2 : Sg), m_fewestOf_117_L2 n v1 v2 σ = some (r, σ2) → Rc none (Ev MT CT d) sg187 (2, [(0, .ref 117), (1, .int v1), (2, .int v2)], [], σ) (fun v s => v = some (.int r) ∧ s = σ2)
  | 0, _, _, _, _, _, h => by cases h
  | n + 1, v1, v2, σ, r, σ2, h => m_fewestOf_117_H2_ok hd (m_fewestOf_117_L2_ok hd n) v1 v2 σ r σ2 h
theorem m_fewestOf_117_ok {d : Nat} (hd : 17 ≤ d) {v1 : Int32} {σ : Sg} {r : Int32} {σ2 : Sg} (h : m_fewestOf_117 v1 σ = some (r, σ2)) : Ev MT CT d 187 [.ref 117, .int v1] σ (fun v s => v = some (.int r) ∧ s = σ2) := by
  obtain ⟨d, rfl⟩ : ∃ e, d = e + 1 := ⟨d - 1, by omega⟩
  refine ⟨Nat.le_of_ble_eq_true rfl, ?_⟩
  show Rc none (Ev MT CT d) sg187 (0, [(0, .ref 117), (1, .int v1)], [], σ) _
  unfold m_fewestOf_117 at h
  have hd : 16 ≤ d := by omega
  refine Rc.blk (c := []) (s2 := (2, [(2, .int 0), (0, .ref 117), (1, .int v1)], [], σ)) 0 rfl rfl (trivial) ?_
  refine Rc.pick [1, 2, 0] (lv2 := [(0, .ref 117), (1, .int v1), (2, .int 0)]) rfl ?_
  exact m_fewestOf_117_L2_ok hd fu _ _ _ _ _ h
theorem m_fewest_117_H57_ok {d : Nat} (hd : 17 ≤ d) {k57 : Int32 → Int32 → Sg → Option (Int32 × Sg)} (hk57 : ∀ (v2 : Int32) (v3 : Int32) (σ : Sg) (r : Int32) (σ2 : Sg), k57 v2 v3 σ = some (r, σ2) → Rc none (Ev MT CT d) sg188 (57, [(0, .ref 117), (2, .int v2), (3, .int v3)], [], σ) (fun v s => v = some (.int r) ∧ s = σ2)) (v2 : Int32) (v3 : Int32) (σ : Sg) (r : Int32) (σ2 : Sg) (h : m_fewest_117_H57 k57 v2 v3 σ = some (r, σ2)) : Rc none (Ev MT CT d) sg188 (57, [(0, .ref 117), (2, .int v2), (3, .int v3)], [], σ) (fun v s => v = some (.int r) ∧ s = σ2) := by
  unfold m_fewest_117_H57 at h
  refine Rc.blk (c := []) (s2 := (if 5 ≤ v3 then 80 else 62, [(0, .ref 117), (2, .int v2), (3, .int v3)], [], σ)) 21 rfl rfl (trivial) ?_
  by_cases c4 : 5 ≤ v3
  · rw [if_pos c4] at h
    refine Rc.ifp c4 ?_
    refine Rc.blk (c := []) (s2 := (82, [(0, .ref 117), (2, .int v2), (3, .int v3)], [.int v2, .ref 117], σ)) 23 rfl rfl (trivial) ?_
    obtain ⟨r1, σ1, hc, h⟩ := bd_some h
    refine Rc.call (Ev.mono d) (v := some (.int r1)) (as := [.ref 117, .int v2]) (r := []) 24 rfl rfl rfl rfl ⟨rfl, Nat.le_of_ble_eq_true rfl⟩ (m_fewestOf_117_ok (by omega) hc) ?_
    show Rc _ _ _ (85, [(0, .ref 117), (2, .int v2), (3, .int v3)], [.int r1], σ1) _
    obtain ⟨rfl, rfl⟩ := some_pair h
    exact Rc.ret 25 rfl rfl rfl trivial ⟨rfl, rfl⟩
  · rw [if_neg c4] at h
    refine Rc.ifn c4 ?_
    obtain ⟨g2, h⟩ := gd_some h
    obtain ⟨g3, h⟩ := gd_some h
    refine Rc.blk (c := [_, _, _, _]) (s2 := (57, [(3, .int (v3 + 1)), (0, .ref 117), (2, .int v2)], [], si σ 130 v3.toNatClampNeg (σ.1 128 v3.toNatClampNeg))) 22 rfl rfl (conj_c (rfl) (conj_c (rfl) (conj_c (⟨rfl, inB_in g2⟩) (conj_c (⟨rfl, inB_in g3⟩) (trivial))))) ?_
    refine Rc.pick [1, 2, 0] (lv2 := [(0, .ref 117), (2, .int v2), (3, .int (v3 + 1))]) rfl ?_
    exact hk57 _ _ _ _ _ h
theorem m_fewest_117_L57_ok {d : Nat} (hd : 17 ≤ d) : ∀ (n : Nat) (v2 : Int32) (v3 : Int32) (σ : Sg) (r : Int32) (σ2 : Sg), m_fewest_117_L57 n v2 v3 σ = some (r, σ2) → Rc none (Ev MT CT d) sg188 (57, [(0, .ref 117), (2, .int v2), (3, .int v3)], [], σ) (fun v s => v = some (.int r) ∧ s = σ2)
  | 0, _, _, _, _, _, h => by cases h
  | n + 1, v2, v3, σ, r, σ2, h => m_fewest_117_H57_ok hd (m_fewest_117_L57_ok hd n) v2 v3 σ r σ2 h
theorem m_fewest_117_ok {d : Nat} (hd : 18 ≤ d) {v1 : Int32} {v2 : Int32} {σ : Sg} {r : Int32} {σ2 : Sg} (h : m_fewest_117 v1 v2 σ = some (r, σ2)) : Ev MT CT d 188 [.ref 117, .int v1, .int v2] σ (fun v s => v = some (.int r) ∧ s = σ2) := by
  obtain ⟨d, rfl⟩ : ∃ e, d = e + 1 := ⟨d - 1, by omega⟩
  refine ⟨Nat.le_of_ble_eq_true rfl, ?_⟩
  show Rc none (Ev MT CT d) sg188 (0, [(0, .ref 117), (1, .int v1), (2, .int v2)], [], σ) _
  unfold m_fewest_117 at h
  have hd : 17 ≤ d := by omega
  refine Rc.blk (c := []) (s2 := (1, [(0, .ref 117), (1, .int v1), (2, .int v2)], [.int v1], σ)) 0 rfl rfl (trivial) ?_
  obtain ⟨r1, σ1, hc, h⟩ := bd_some h
  refine Rc.call (Ev.mono d) (v := some (.int r1)) (as := [.int v1]) (r := []) 1 rfl rfl rfl rfl (Nat.le_of_ble_eq_true rfl) (m_isList_s_ok (by omega) hc) ?_
  show Rc _ _ _ (4, [(0, .ref 117), (1, .int v1), (2, .int v2)], [.int r1], σ1) _
  refine Rc.blk (c := []) (s2 := (if ¬ r1 = 0 then 13 else 7, [(0, .ref 117), (1, .int v1), (2, .int v2)], [], σ1)) 2 rfl rfl (trivial) ?_
  by_cases c11 : r1 = 0
  · rw [if_pos c11] at h
    refine Rc.ifn (fun q => q c11) ?_
    refine Rc.blk (c := []) (s2 := (9, [(0, .ref 117), (1, .int v1), (2, .int v2)], [.int 1, .ref 117], σ1)) 3 rfl rfl (trivial) ?_
    obtain ⟨r10, σ10, hc, h⟩ := bd_some h
    refine Rc.call (Ev.mono d) (v := some (.int r10)) (as := [.ref 117, .int 1]) (r := []) 4 rfl rfl rfl rfl ⟨rfl, Nat.le_of_ble_eq_true rfl⟩ (m_refuse_117_ok (by omega) hc) ?_
    show Rc _ _ _ (12, [(0, .ref 117), (1, .int v1), (2, .int v2)], [.int r10], σ10) _
    obtain ⟨rfl, rfl⟩ := some_pair h
    exact Rc.ret 5 rfl rfl rfl trivial ⟨rfl, rfl⟩
  · rw [if_neg c11] at h
    refine Rc.ifp c11 ?_
    obtain ⟨g2, h⟩ := gd_some h
    refine Rc.blk (c := [_, _]) (s2 := (if 0 ≤ (σ1.1 126 v1.toNatClampNeg) then 29 else 22, [(0, .ref 117), (1, .int v1), (2, .int v2)], [], σ1)) 6 rfl rfl (conj_c (rfl) (conj_c (⟨rfl, inB_in g2⟩) (trivial))) ?_
    by_cases c9 : 0 ≤ (σ1.1 126 v1.toNatClampNeg)
    · rw [if_pos c9] at h
      refine Rc.ifp c9 ?_
      refine Rc.blk (c := []) (s2 := (32, [(0, .ref 117), (1, .int v1), (2, .int v2)], [.int 5, .int v1, .ref 117], σ1)) 10 rfl rfl (trivial) ?_
      obtain ⟨r3, σ3, hc, h⟩ := bd_some h
      refine Rc.call (Ev.mono d) (v := some (.int r3)) (as := [.ref 117, .int v1, .int 5]) (r := []) 11 rfl rfl rfl rfl ⟨rfl, Nat.le_of_ble_eq_true rfl⟩ (m_tells_117_ok (by omega) hc) ?_
      show Rc _ _ _ (35, [(0, .ref 117), (1, .int v1), (2, .int v2)], [.int r3], σ3) _
      refine Rc.blk (c := []) (s2 := (if ¬ r3 = 0 then 44 else 38, [(0, .ref 117), (1, .int v1), (2, .int v2)], [], σ3)) 12 rfl rfl (trivial) ?_
      by_cases c7 : r3 = 0
      · rw [if_pos c7] at h
        refine Rc.ifn (fun q => q c7) ?_
        refine Rc.blk (c := []) (s2 := (40, [(0, .ref 117), (1, .int v1), (2, .int v2)], [.int 3, .ref 117], σ3)) 13 rfl rfl (trivial) ?_
        obtain ⟨r6, σ6, hc, h⟩ := bd_some h
        refine Rc.call (Ev.mono d) (v := some (.int r6)) (as := [.ref 117, .int 3]) (r := []) 14 rfl rfl rfl rfl ⟨rfl, Nat.le_of_ble_eq_true rfl⟩ (m_refuse_117_ok (by omega) hc) ?_
        show Rc _ _ _ (43, [(0, .ref 117), (1, .int v1), (2, .int v2)], [.int r6], σ6) _
        obtain ⟨rfl, rfl⟩ := some_pair h
        exact Rc.ret 15 rfl rfl rfl trivial ⟨rfl, rfl⟩
      · rw [if_neg c7] at h
        refine Rc.ifp c7 ?_
        refine Rc.blk (c := []) (s2 := (if (-1) ≤ v2 then 55 else 49, [(0, .ref 117), (1, .int v1), (2, .int v2)], [], σ3)) 16 rfl rfl (trivial) ?_
        by_cases c5 : (-1) ≤ v2
        · rw [if_pos c5] at h
          refine Rc.ifp c5 ?_
          refine Rc.blk (c := []) (s2 := (57, [(3, .int 0), (0, .ref 117), (1, .int v1), (2, .int v2)], [], σ3)) 20 rfl rfl (trivial) ?_
          refine Rc.pick [1, 3, 0] (lv2 := [(0, .ref 117), (2, .int v2), (3, .int 0)]) rfl ?_
          exact m_fewest_117_L57_ok hd fu _ _ _ _ _ h
        · rw [if_neg c5] at h
          refine Rc.ifn c5 ?_
          refine Rc.blk (c := []) (s2 := (51, [(0, .ref 117), (1, .int v1), (2, .int v2)], [.int 4, .ref 117], σ3)) 17 rfl rfl (trivial) ?_
          obtain ⟨r4, σ4, hc, h⟩ := bd_some h
          refine Rc.call (Ev.mono d) (v := some (.int r4)) (as := [.ref 117, .int 4]) (r := []) 18 rfl rfl rfl rfl ⟨rfl, Nat.le_of_ble_eq_true rfl⟩ (m_refuse_117_ok (by omega) hc) ?_
          show Rc _ _ _ (54, [(0, .ref 117), (1, .int v1), (2, .int v2)], [.int r4], σ4) _
          obtain ⟨rfl, rfl⟩ := some_pair h
          exact Rc.ret 19 rfl rfl rfl trivial ⟨rfl, rfl⟩
    · rw [if_neg c9] at h
      refine Rc.ifn c9 ?_
      refine Rc.blk (c := []) (s2 := (25, [(0, .ref 117), (1, .int v1), (2, .int v2)], [.int 11, .ref 117], σ1)) 7 rfl rfl (trivial) ?_
      obtain ⟨r8, σ8, hc, h⟩ := bd_some h
      refine Rc.call (Ev.mono d) (v := some (.int r8)) (as := [.ref 117, .int 11]) (r := []) 8 rfl rfl rfl rfl ⟨rfl, Nat.le_of_ble_eq_true rfl⟩ (m_refuse_117_ok (by omega) hc) ?_
      show Rc _ _ _ (28, [(0, .ref 117), (1, .int v1), (2, .int v2)], [.int r8], σ8) _
      obtain ⟨rfl, rfl⟩ := some_pair h
      exact Rc.ret 9 rfl rfl rfl trivial ⟨rfl, rfl⟩
theorem m_differs_117_H3_ok {d : Nat} (hd : 0 ≤ d) {k3 : Int32 → Int64 → Int32 → Sg → Option (Int32 × Sg)} (hk3 : ∀ (v1 : Int32) (v2 : Int64) (v4 : Int32) (σ : Sg) (r : Int32) (σ2 : Sg), k3 v1 v2 v4 σ = some (r, σ2) → Rc none (Ev MT CT d) sg190 (3, [(0, .ref 117), (1, .int v1), (2, .long v2), (4, .int v4)], [], σ) (fun v s => v = some (.int r) ∧ s = σ2)) (v1 : Int32) (v2 : Int64) (v4 : Int32) (σ : Sg) (r : Int32) (σ2 : Sg) (h : m_differs_117_H3 k3 v1 v2 v4 σ = some (r, σ2)) : Rc none (Ev MT CT d) sg190 (3, [(0, .ref 117), (1, .int v1), (2, .long v2), (4, .int v4)], [], σ) (fun v s => v = some (.int r) ∧ s = σ2) := by
  unfold m_differs_117_H3 at h
  refine Rc.blk (c := []) (s2 := (if v1 ≤ v4 then 29 else 9, [(0, .ref 117), (1, .int v1), (2, .long v2), (4, .int v4)], [], σ)) 1 rfl rfl (trivial) ?_
  by_cases c4 : v1 ≤ v4
  · rw [if_pos c4] at h
    refine Rc.ifp c4 ?_
    obtain ⟨g1, h⟩ := gd_some h
    refine Rc.blk (c := [_, _]) (s2 := (39, [(0, .ref 117), (1, .int v1), (2, .long v2), (4, .int v4)], [.int (v1 + 1)], sl σ 131 v1.toNatClampNeg v2)) 6 rfl rfl (conj_c (rfl) (conj_c (⟨rfl, inB_in g1⟩) (trivial))) ?_
    obtain ⟨rfl, rfl⟩ := some_pair h
    exact Rc.ret 7 rfl rfl rfl trivial ⟨rfl, rfl⟩
  · rw [if_neg c4] at h
    refine Rc.ifn c4 ?_
    obtain ⟨g2, h⟩ := gd_some h
    refine Rc.blk (c := [_, _]) (s2 := (if ¬ (lg_cmp (σ.2 131 v4.toNatClampNeg) v2) = 0 then 23 else 21, [(0, .ref 117), (1, .int v1), (2, .long v2), (4, .int v4)], [], σ)) 2 rfl rfl (conj_c (rfl) (conj_c (⟨rfl, inB_in g2⟩) (trivial))) ?_
    by_cases c3 : (lg_cmp (σ.2 131 v4.toNatClampNeg) v2) = 0
    · rw [if_pos c3] at h
      refine Rc.ifn (fun q => q c3) ?_
      refine Rc.blk (c := []) (s2 := (22, [(0, .ref 117), (1, .int v1), (2, .long v2), (4, .int v4)], [.int v1], σ)) 3 rfl rfl (trivial) ?_
      obtain ⟨rfl, rfl⟩ := some_pair h
      exact Rc.ret 4 rfl rfl rfl trivial ⟨rfl, rfl⟩
    · rw [if_neg c3] at h
      refine Rc.ifp c3 ?_
      refine Rc.blk (c := []) (s2 := (3, [(4, .int (v4 + 1)), (0, .ref 117), (1, .int v1), (2, .long v2)], [], σ)) 5 rfl rfl (trivial) ?_
      refine Rc.pick [1, 2, 3, 0] (lv2 := [(0, .ref 117), (1, .int v1), (2, .long v2), (4, .int (v4 + 1))]) rfl ?_
      exact hk3 _ _ _ _ _ _ h
theorem m_differs_117_L3_ok {d : Nat} (hd : 0 ≤ d) : ∀ (n : Nat) (v1 : Int32) (v2 : Int64) (v4 : Int32) (σ : Sg) (r : Int32) (σ2 : Sg), m_differs_117_L3 n v1 v2 v4 σ = some (r, σ2) → Rc none (Ev MT CT d) sg190 (3, [(0, .ref 117), (1, .int v1), (2, .long v2), (4, .int v4)], [], σ) (fun v s => v = some (.int r) ∧ s = σ2)
  | 0, _, _, _, _, _, _, h => by cases h
  | n + 1, v1, v2, v4, σ, r, σ2, h => m_differs_117_H3_ok hd (m_differs_117_L3_ok hd n) v1 v2 v4 σ r σ2 h
theorem m_differs_117_ok {d : Nat} (hd : 1 ≤ d) {v1 : Int32} {v2 : Int64} {σ : Sg} {r : Int32} {σ2 : Sg} (h : m_differs_117 v1 v2 σ = some (r, σ2)) : Ev MT CT d 190 [.ref 117, .int v1, .long v2] σ (fun v s => v = some (.int r) ∧ s = σ2) := by
  obtain ⟨d, rfl⟩ : ∃ e, d = e + 1 := ⟨d - 1, by omega⟩
  refine ⟨Nat.le_of_ble_eq_true rfl, ?_⟩
  show Rc none (Ev MT CT d) sg190 (0, [(0, .ref 117), (1, .int v1), (2, .long v2)], [], σ) _
  unfold m_differs_117 at h
  have hd : 0 ≤ d := by omega
  refine Rc.blk (c := []) (s2 := (3, [(4, .int 0), (0, .ref 117), (1, .int v1), (2, .long v2)], [], σ)) 0 rfl rfl (trivial) ?_
  refine Rc.pick [1, 2, 3, 0] (lv2 := [(0, .ref 117), (1, .int v1), (2, .long v2), (4, .int 0)]) rfl ?_
  exact m_differs_117_L3_ok hd fu _ _ _ _ _ _ h
theorem m_keyOf_117_H5_ok {d : Nat} (hd : 2 ≤ d) {k5 : Int32 → Int64 → Int32 → Sg → Option (Int64 × Sg)} (hk5 : ∀ (v1 : Int32) (v2 : Int64) (v4 : Int32) (σ : Sg) (r : Int64) (σ2 : Sg), k5 v1 v2 v4 σ = some (r, σ2) → Rc none (Ev MT CT d) sg189 (5, [(0, .ref 117), (1, .int v1), (2, .long v2), (4, .int v4)], [], σ) (fun v s => v = some (.long r) ∧ s = σ2)) (v1 : Int32) (v2 : Int64) (v4 : Int32) (σ : Sg) (r : Int64) (σ2 : Sg) (h : m_keyOf_117_H5 k5 v1 v2 v4 σ = some (r, σ2)) : Rc none (Ev MT CT d) sg189 (5, [(0, .ref 117), (1, .int v1), (2, .long v2), (4, .int v4)], [], σ) (fun v s => v = some (.long r) ∧ s = σ2) := by
  unfold m_keyOf_117_H5 at h
  refine Rc.blk (c := []) (s2 := (if 5 ≤ v4 then 32 else 11, [(0, .ref 117), (1, .int v1), (2, .long v2), (4, .int v4)], [], σ)) 1 rfl rfl (trivial) ?_
  by_cases c2 : 5 ≤ v4
  · rw [if_pos c2] at h
    refine Rc.ifp c2 ?_
    refine Rc.blk (c := []) (s2 := (33, [(0, .ref 117), (1, .int v1), (2, .long v2), (4, .int v4)], [.long v2], σ)) 5 rfl rfl (trivial) ?_
    obtain ⟨rfl, rfl⟩ := some_pair h
    exact Rc.ret 6 rfl rfl rfl trivial ⟨rfl, rfl⟩
  · rw [if_neg c2] at h
    refine Rc.ifn c2 ?_
    refine Rc.blk (c := []) (s2 := (20, [(0, .ref 117), (1, .int v1), (2, .long v2), (4, .int v4)], [.int v4, .int v1, .ref 117, .long (1000 * v2)], σ)) 2 rfl rfl (trivial) ?_
    obtain ⟨r1, σ1, hc, h⟩ := bd_some h
    refine Rc.call (Ev.mono d) (v := some (.int r1)) (as := [.ref 117, .int v1, .int v4]) (r := [.long (1000 * v2)]) 3 rfl rfl rfl rfl ⟨rfl, Nat.le_of_ble_eq_true rfl⟩ (m_powerBy_117_ok (by omega) hc) ?_
    show Rc _ _ _ (23, [(0, .ref 117), (1, .int v1), (2, .long v2), (4, .int v4)], [.int r1, .long (1000 * v2)], σ1) _
    refine Rc.blk (c := []) (s2 := (5, [(4, .int (v4 + 1)), (2, .long ((1000 * v2) + r1.toInt64)), (0, .ref 117), (1, .int v1)], [], σ1)) 4 rfl rfl (trivial) ?_
    refine Rc.pick [2, 3, 1, 0] (lv2 := [(0, .ref 117), (1, .int v1), (2, .long ((1000 * v2) + r1.toInt64)), (4, .int (v4 + 1))]) rfl ?_
    exact hk5 _ _ _ _ _ _ h
theorem m_keyOf_117_L5_ok {d : Nat} (hd : 2 ≤ d) : ∀ (n : Nat) (v1 : Int32) (v2 : Int64) (v4 : Int32) (σ : Sg) (r : Int64) (σ2 : Sg), m_keyOf_117_L5 n v1 v2 v4 σ = some (r, σ2) → Rc none (Ev MT CT d) sg189 (5, [(0, .ref 117), (1, .int v1), (2, .long v2), (4, .int v4)], [], σ) (fun v s => v = some (.long r) ∧ s = σ2)
  | 0, _, _, _, _, _, _, h => by cases h
  | n + 1, v1, v2, v4, σ, r, σ2, h => m_keyOf_117_H5_ok hd (m_keyOf_117_L5_ok hd n) v1 v2 v4 σ r σ2 h
theorem m_keyOf_117_ok {d : Nat} (hd : 3 ≤ d) {v1 : Int32} {σ : Sg} {r : Int64} {σ2 : Sg} (h : m_keyOf_117 v1 σ = some (r, σ2)) : Ev MT CT d 189 [.ref 117, .int v1] σ (fun v s => v = some (.long r) ∧ s = σ2) := by
  obtain ⟨d, rfl⟩ : ∃ e, d = e + 1 := ⟨d - 1, by omega⟩
  refine ⟨Nat.le_of_ble_eq_true rfl, ?_⟩
  show Rc none (Ev MT CT d) sg189 (0, [(0, .ref 117), (1, .int v1)], [], σ) _
  unfold m_keyOf_117 at h
  have hd : 2 ≤ d := by omega
  refine Rc.blk (c := []) (s2 := (5, [(4, .int 0), (2, .long 0), (0, .ref 117), (1, .int v1)], [], σ)) 0 rfl rfl (trivial) ?_
  refine Rc.pick [2, 3, 1, 0] (lv2 := [(0, .ref 117), (1, .int v1), (2, .long 0), (4, .int 0)]) rfl ?_
  exact m_keyOf_117_L5_ok hd fu _ _ _ _ _ _ h
