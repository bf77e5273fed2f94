/-! ===== the small machine does what the functions say ===== -/
theorem j_keyOf_115_H11_ok {d : Nat} (hd : 0 ≤ d) {k11 : Int64 → Int32 → Int32 → Sg → Option (Int64 × Sg)} (hk11 : ∀ (v1 : Int64) (v4 : Int32) (v5 : Int32) (σ : Sg) (r : Int64) (σ2 : Sg), k11 v1 v4 v5 σ = some (r, σ2) → Rc none (Ev MT CT d) sg50 (11, [(1, .long v1), (3, .ref 115), (4, .int v4), (5, .int v5)], [], σ) (fun v s => v = some (.long r) ∧ s = σ2)) (v1 : Int64) (v4 : Int32) (v5 : Int32) (σ : Sg) (r : Int64) (σ2 : Sg) (h : j_keyOf_115_H11 k11 v1 v4 v5 σ = some (r, σ2)) : Rc none (Ev MT CT d) sg50 (11, [(1, .long v1), (3, .ref 115), (4, .int v4), (5, .int v5)], [], σ) (fun v s => v = some (.long r) ∧ s = σ2) := by
  unfold j_keyOf_115_H11 at h
  refine Rc.blk (c := []) (s2 := (if v4 ≤ v5 then 40 else 18, [(1, .long v1), (3, .ref 115), (4, .int v4), (5, .int v5)], [], σ)) 1 rfl rfl (trivial) ?_
  by_cases c2 : v4 ≤ v5
  · rw [if_pos c2] at h
    refine Rc.ifp c2 ?_
    refine Rc.blk (c := []) (s2 := (41, [(1, .long v1), (3, .ref 115), (4, .int v4), (5, .int v5)], [.long v1], σ)) 3 rfl rfl (trivial) ?_
    obtain ⟨rfl, rfl⟩ := some_pair h
    exact Rc.ret 4 rfl rfl rfl trivial ⟨rfl, rfl⟩
  · rw [if_neg c2] at h
    refine Rc.ifn c2 ?_
    obtain ⟨g1, h⟩ := gd_some h
    refine Rc.blk (c := [_]) (s2 := (11, [(5, .int (v5 + 1)), (1, .long ((v1 * 4096) + ((σ.1 115 v5.toNatClampNeg).toInt64))), (6, .int (σ.1 115 v5.toNatClampNeg)), (3, .ref 115), (4, .int v4)], [], σ)) 2 rfl rfl (conj_c (⟨rfl, inB_in g1⟩) (trivial)) ?_
    refine Rc.pick [1, 3, 4, 0] (lv2 := [(1, .long ((v1 * 4096) + ((σ.1 115 v5.toNatClampNeg).toInt64))), (3, .ref 115), (4, .int v4), (5, .int (v5 + 1))]) rfl ?_
    exact hk11 _ _ _ _ _ _ h
theorem j_keyOf_115_L11_ok {d : Nat} (hd : 0 ≤ d) : ∀ (n : Nat) (v1 : Int64) (v4 : Int32) (v5 : Int32) (σ : Sg) (r : Int64) (σ2 : Sg), j_keyOf_115_L11 n v1 v4 v5 σ = some (r, σ2) → Rc none (Ev MT CT d) sg50 (11, [(1, .long v1), (3, .ref 115), (4, .int v4), (5, .int v5)], [], σ) (fun v s => v = some (.long r) ∧ s = σ2)
  | 0, _, _, _, _, _, _, h => by cases h
  | n + 1, v1, v4, v5, σ, r, σ2, h => j_keyOf_115_H11_ok hd (j_keyOf_115_L11_ok hd n) v1 v4 v5 σ r σ2 h
theorem j_keyOf_115_ok {d : Nat} (hd : 1 ≤ d) {σ : Sg} {r : Int64} {σ2 : Sg} (h : j_keyOf_115 σ = some (r, σ2)) : Ev MT CT d 50 [.ref 115] σ (fun v s => v = some (.long r) ∧ s = σ2) := by
  obtain ⟨d, rfl⟩ : ∃ e, d = e + 1 := ⟨d - 1, by omega⟩
  refine ⟨Nat.le_of_ble_eq_true rfl, ?_⟩
  show Rc none (Ev MT CT d) sg50 (0, [(0, .ref 115)], [], σ) _
  unfold j_keyOf_115 at h
  have hd : 0 ≤ d := by omega
  refine Rc.blk (c := [_]) (s2 := (11, [(5, .int 0), (4, .int 5), (3, .ref 115), (1, .long 0), (0, .ref 115)], [], σ)) 0 rfl rfl (conj_c ((by decide)) (trivial)) ?_
  refine Rc.pick [3, 2, 1, 0] (lv2 := [(1, .long 0), (3, .ref 115), (4, .int 5), (5, .int 0)]) rfl ?_
  exact j_keyOf_115_L11_ok hd fu _ _ _ _ _ _ h
theorem j_findRow_80_115_H107_ok {d : Nat} (hd : 13 ≤ d) {k107 : Int64 → Int32 → Sg → Option (Int32 × Sg)} (hk107 : ∀ (v2 : Int64) (v4 : Int32) (σ : Sg) (r : Int32) (σ2 : Sg), k107 v2 v4 σ = some (r, σ2) → Rc none (Ev MT CT d) sg46 (107, [(0, .ref 80), (2, .long v2), (4, .int v4)], [], σ) (fun v s => v = some (.int r) ∧ s = σ2)) (v2 : Int64) (v4 : Int32) (σ : Sg) (r : Int32) (σ2 : Sg) (h : j_findRow_80_115_H107 k107 v2 v4 σ = some (r, σ2)) : Rc none (Ev MT CT d) sg46 (107, [(0, .ref 80), (2, .long v2), (4, .int v4)], [], σ) (fun v s => v = some (.int r) ∧ s = σ2) := by
  unfold j_findRow_80_115_H107 at h
  refine Rc.blk (c := []) (s2 := (if 3 < v4 then 149 else 113, [(0, .ref 80), (2, .long v2), (4, .int v4)], [], σ)) 13 rfl rfl (trivial) ?_
  by_cases c3 : 3 < v4
  · rw [if_pos c3] at h
    refine Rc.ifp c3 ?_
    refine Rc.blk (c := []) (s2 := (151, [(0, .ref 80), (2, .long v2), (4, .int v4)], [.int (-9)], σ)) 20 rfl rfl (trivial) ?_
    obtain ⟨rfl, rfl⟩ := some_pair h
    exact Rc.ret 21 rfl rfl rfl trivial ⟨rfl, rfl⟩
  · rw [if_neg c3] at h
    refine Rc.ifn c3 ?_
    refine Rc.blk (c := [_, _, _, _]) (s2 := (134, [(0, .ref 80), (2, .long v2), (4, .int v4)], [.long v2, .int v4, .int 0, .ref 83, .int (2 * (σ.1 51 0)), .ref 82], σ)) 14 rfl rfl (conj_c (rfl) (conj_c (rfl) (conj_c (rfl) (conj_c (rfl) (trivial))))) ?_
    obtain ⟨r1, σ1, hc, h⟩ := bd_some h
    refine Rc.call (Ev.mono d) (v := some (.int r1)) (as := [.ref 82, .int (2 * (σ.1 51 0)), .ref 83, .int 0, .int v4, .long v2]) (r := []) 15 rfl rfl rfl rfl (Nat.le_of_ble_eq_true rfl) (j_hasRow_82_83_top (by omega) hc) ?_
    show Rc _ _ _ (137, [(0, .ref 80), (2, .long v2), (4, .int v4)], [.int r1], σ1) _
    refine Rc.blk (c := []) (s2 := (if r1 = 0 then 143 else 140, [(0, .ref 80), (2, .long v2), (4, .int v4)], [], σ1)) 16 rfl rfl (trivial) ?_
    by_cases c2 : r1 = 0
    · rw [if_pos c2] at h
      refine Rc.ifp c2 ?_
      refine Rc.blk (c := []) (s2 := (107, [(4, .int (v4 + 1)), (0, .ref 80), (2, .long v2)], [], σ1)) 19 rfl rfl (trivial) ?_
      refine Rc.pick [1, 2, 0] (lv2 := [(0, .ref 80), (2, .long v2), (4, .int (v4 + 1))]) rfl ?_
      exact hk107 _ _ _ _ _ h
    · rw [if_neg c2] at h
      refine Rc.ifn c2 ?_
      refine Rc.blk (c := []) (s2 := (142, [(0, .ref 80), (2, .long v2), (4, .int v4)], [.int v4], σ1)) 17 rfl rfl (trivial) ?_
      obtain ⟨rfl, rfl⟩ := some_pair h
      exact Rc.ret 18 rfl rfl rfl trivial ⟨rfl, rfl⟩
theorem j_findRow_80_115_L107_ok {d : Nat} (hd : 13 ≤ d) : ∀ (n : Nat) (v2 : Int64) (v4 : Int32) (σ : Sg) (r : Int32) (σ2 : Sg), j_findRow_80_115_L107 n v2 v4 σ = some (r, σ2) → Rc none (Ev MT CT d) sg46 (107, [(0, .ref 80), (2, .long v2), (4, .int v4)], [], σ) (fun v s => v = some (.int r) ∧ s = σ2)
  | 0, _, _, _, _, _, h => by cases h
  | n + 1, v2, v4, σ, r, σ2, h => j_findRow_80_115_H107_ok hd (j_findRow_80_115_L107_ok hd n) v2 v4 σ r σ2 h
theorem j_findRow_80_115_H45_ok {d : Nat} (hd : 13 ≤ d) {k45 : Int32 → Sg → Option (Int32 × Sg)} (hk45 : ∀ (v2 : Int32) (σ : Sg) (r : Int32) (σ2 : Sg), k45 v2 σ = some (r, σ2) → Rc none (Ev MT CT d) sg46 (45, [(0, .ref 80), (1, .ref 115), (2, .int v2)], [], σ) (fun v s => v = some (.int r) ∧ s = σ2)) (v2 : Int32) (σ : Sg) (r : Int32) (σ2 : Sg) (h : j_findRow_80_115_H45 k45 v2 σ = some (r, σ2)) : Rc none (Ev MT CT d) sg46 (45, [(0, .ref 80), (1, .ref 115), (2, .int v2)], [], σ) (fun v s => v = some (.int r) ∧ s = σ2) := by
  unfold j_findRow_80_115_H45 at h
  refine Rc.blk (c := [_, _]) (s2 := (if (σ.1 51 0) ≤ v2 then 99 else 56, [(0, .ref 80), (1, .ref 115), (2, .int v2)], [], σ)) 8 rfl rfl (conj_c (rfl) (conj_c (rfl) (trivial))) ?_
  by_cases c6 : (σ.1 51 0) ≤ v2
  · rw [if_pos c6] at h
    refine Rc.ifp c6 ?_
    refine Rc.blk (c := []) (s2 := (100, [(0, .ref 80), (1, .ref 115), (2, .int v2)], [.ref 115], σ)) 10 rfl rfl (trivial) ?_
    obtain ⟨r1, σ1, hc, h⟩ := bd_some h
    refine Rc.call (Ev.mono d) (v := some (.long r1)) (as := [.ref 115]) (r := []) 11 rfl rfl rfl rfl (Nat.le_of_ble_eq_true rfl) (j_keyOf_115_ok (by omega) hc) ?_
    show Rc _ _ _ (103, [(0, .ref 80), (1, .ref 115), (2, .int v2)], [.long r1], σ1) _
    refine Rc.blk (c := []) (s2 := (107, [(4, .int 0), (2, .long r1), (0, .ref 80), (1, .ref 115)], [], σ1)) 12 rfl rfl (trivial) ?_
    refine Rc.pick [2, 1, 0] (lv2 := [(0, .ref 80), (2, .long r1), (4, .int 0)]) rfl ?_
    exact j_findRow_80_115_L107_ok hd fu _ _ _ _ _ h
  · rw [if_neg c6] at h
    refine Rc.ifn c6 ?_
    obtain ⟨g2, h⟩ := gd_some h
    obtain ⟨g3, h⟩ := gd_some h
    obtain ⟨g4, h⟩ := gd_some h
    obtain ⟨g5, h⟩ := gd_some h
    refine Rc.blk (c := [_, _, _, _, _, _, _, _, _, _]) (s2 := (45, [(2, .int (v2 + 1)), (0, .ref 80), (1, .ref 115)], [], sl (sl σ 82 (2 * v2).toNatClampNeg (σ.2 61 v2.toNatClampNeg)) 82 ((2 * v2) + 1).toNatClampNeg (-((sl σ 82 (2 * v2).toNatClampNeg (σ.2 61 v2.toNatClampNeg)).2 61 v2.toNatClampNeg)))) 9 rfl rfl (conj_c (rfl) (conj_c (rfl) (conj_c (rfl) (conj_c (⟨rfl, inB_in g2⟩) (conj_c (⟨rfl, inB_in g3⟩) (conj_c (rfl) (conj_c (rfl) (conj_c (rfl) (conj_c (⟨rfl, inB_in g4⟩) (conj_c (⟨rfl, inB_in g5⟩) (trivial))))))))))) ?_
    refine Rc.pick [1, 2, 0] (lv2 := [(0, .ref 80), (1, .ref 115), (2, .int (v2 + 1))]) rfl ?_
    exact hk45 _ _ _ _ h
theorem j_findRow_80_115_L45_ok {d : Nat} (hd : 13 ≤ d) : ∀ (n : Nat) (v2 : Int32) (σ : Sg) (r : Int32) (σ2 : Sg), j_findRow_80_115_L45 n v2 σ = some (r, σ2) → Rc none (Ev MT CT d) sg46 (45, [(0, .ref 80), (1, .ref 115), (2, .int v2)], [], σ) (fun v s => v = some (.int r) ∧ s = σ2)
  | 0, _, _, _, _, h => by cases h
  | n + 1, v2, σ, r, σ2, h => j_findRow_80_115_H45_ok hd (j_findRow_80_115_L45_ok hd n) v2 σ r σ2 h
theorem j_findRow_80_115_b34_ok {d : Nat} (hd : 13 ≤ d) (σ : Sg) (r : Int32) (σ2 : Sg) (h : j_findRow_80_115_b34 σ = some (r, σ2)) : Rc none (Ev MT CT d) sg46 (34, [], [], σ) (fun v s => v = some (.int r) ∧ s = σ2) := by
  unfold j_findRow_80_115_b34 at h
  refine Rc.blk (c := []) (s2 := (36, [], [.int (-9)], σ)) 4 rfl rfl (trivial) ?_
  obtain ⟨rfl, rfl⟩ := some_pair h
  exact Rc.ret 5 rfl rfl rfl trivial ⟨rfl, rfl⟩
theorem j_findRow_80_115_H8_ok {d : Nat} (hd : 13 ≤ d) {k8 : Int32 → Int32 → Sg → Option (Int32 × Sg)} (hk8 : ∀ (v3 : Int32) (v4 : Int32) (σ : Sg) (r : Int32) (σ2 : Sg), k8 v3 v4 σ = some (r, σ2) → Rc none (Ev MT CT d) sg46 (8, [(0, .ref 80), (1, .ref 115), (2, .ref 115), (3, .int v3), (4, .int v4)], [], σ) (fun v s => v = some (.int r) ∧ s = σ2)) (v3 : Int32) (v4 : Int32) (σ : Sg) (r : Int32) (σ2 : Sg) (h : j_findRow_80_115_H8 k8 v3 v4 σ = some (r, σ2)) : Rc none (Ev MT CT d) sg46 (8, [(0, .ref 80), (1, .ref 115), (2, .ref 115), (3, .int v3), (4, .int v4)], [], σ) (fun v s => v = some (.int r) ∧ s = σ2) := by
  unfold j_findRow_80_115_H8 at h
  refine Rc.blk (c := []) (s2 := (if v3 ≤ v4 then 43 else 14, [(0, .ref 80), (1, .ref 115), (2, .ref 115), (3, .int v3), (4, .int v4)], [], σ)) 1 rfl rfl (trivial) ?_
  by_cases c4 : v3 ≤ v4
  · rw [if_pos c4] at h
    refine Rc.ifp c4 ?_
    refine Rc.blk (c := []) (s2 := (45, [(2, .int 0), (0, .ref 80), (1, .ref 115), (3, .int v3), (4, .int v4)], [], σ)) 7 rfl rfl (trivial) ?_
    refine Rc.pick [1, 2, 0] (lv2 := [(0, .ref 80), (1, .ref 115), (2, .int 0)]) rfl ?_
    exact j_findRow_80_115_L45_ok hd fu _ _ _ _ h
  · rw [if_neg c4] at h
    refine Rc.ifn c4 ?_
    obtain ⟨g1, h⟩ := gd_some h
    refine Rc.blk (c := [_]) (s2 := (if (σ.1 115 v4.toNatClampNeg) < (-99) then 34 else 27, [(5, .int (σ.1 115 v4.toNatClampNeg)), (0, .ref 80), (1, .ref 115), (2, .ref 115), (3, .int v3), (4, .int v4)], [], σ)) 2 rfl rfl (conj_c (⟨rfl, inB_in g1⟩) (trivial)) ?_
    by_cases c3 : (σ.1 115 v4.toNatClampNeg) < (-99)
    · rw [if_pos c3] at h
      refine Rc.ifp c3 ?_
      refine Rc.pick [] (lv2 := []) rfl ?_
      exact j_findRow_80_115_b34_ok hd _ _ _ h
    · rw [if_neg c3] at h
      refine Rc.ifn c3 ?_
      refine Rc.blk (c := []) (s2 := (if (σ.1 115 v4.toNatClampNeg) ≤ 99 then 37 else 34, [(5, .int (σ.1 115 v4.toNatClampNeg)), (0, .ref 80), (1, .ref 115), (2, .ref 115), (3, .int v3), (4, .int v4)], [], σ)) 3 rfl rfl (trivial) ?_
      by_cases c2 : (σ.1 115 v4.toNatClampNeg) ≤ 99
      · rw [if_pos c2] at h
        refine Rc.ifp c2 ?_
        refine Rc.blk (c := []) (s2 := (8, [(4, .int (v4 + 1)), (5, .int (σ.1 115 v4.toNatClampNeg)), (0, .ref 80), (1, .ref 115), (2, .ref 115), (3, .int v3)], [], σ)) 6 rfl rfl (trivial) ?_
        refine Rc.pick [2, 3, 4, 5, 0] (lv2 := [(0, .ref 80), (1, .ref 115), (2, .ref 115), (3, .int v3), (4, .int (v4 + 1))]) rfl ?_
        exact hk8 _ _ _ _ _ h
      · rw [if_neg c2] at h
        refine Rc.ifn c2 ?_
        refine Rc.pick [] (lv2 := []) rfl ?_
        exact j_findRow_80_115_b34_ok hd _ _ _ h
theorem j_findRow_80_115_L8_ok {d : Nat} (hd : 13 ≤ d) : ∀ (n : Nat) (v3 : Int32) (v4 : Int32) (σ : Sg) (r : Int32) (σ2 : Sg), j_findRow_80_115_L8 n v3 v4 σ = some (r, σ2) → Rc none (Ev MT CT d) sg46 (8, [(0, .ref 80), (1, .ref 115), (2, .ref 115), (3, .int v3), (4, .int v4)], [], σ) (fun v s => v = some (.int r) ∧ s = σ2)
  | 0, _, _, _, _, _, h => by cases h
  | n + 1, v3, v4, σ, r, σ2, h => j_findRow_80_115_H8_ok hd (j_findRow_80_115_L8_ok hd n) v3 v4 σ r σ2 h
theorem j_findRow_80_115_ok {d : Nat} (hd : 14 ≤ d) {σ : Sg} {r : Int32} {σ2 : Sg} (h : j_findRow_80_115 σ = some (r, σ2)) : Ev MT CT d 46 [.ref 80, .ref 115] σ (fun v s => v = some (.int r) ∧ s = σ2) := by
  obtain ⟨d, rfl⟩ : ∃ e, d = e + 1 := ⟨d - 1, by omega⟩
  refine ⟨Nat.le_of_ble_eq_true rfl, ?_⟩
  show Rc none (Ev MT CT d) sg46 (0, [(0, .ref 80), (1, .ref 115)], [], σ) _
  unfold j_findRow_80_115 at h
  have hd : 13 ≤ d := by omega
  refine Rc.blk (c := [_]) (s2 := (8, [(4, .int 0), (3, .int 5), (2, .ref 115), (0, .ref 80), (1, .ref 115)], [], σ)) 0 rfl rfl (conj_c ((by decide)) (trivial)) ?_
  refine Rc.pick [3, 4, 2, 1, 0] (lv2 := [(0, .ref 80), (1, .ref 115), (2, .ref 115), (3, .int 5), (4, .int 0)]) rfl ?_
  exact j_findRow_80_115_L8_ok hd fu _ _ _ _ _ h
theorem j_fewestAt_80_115_b17_ok {d : Nat} (hd : 14 ≤ d) (v3 : Int32) (σ : Sg) (r : Int32) (σ2 : Sg) (h : j_fewestAt_80_115_b17 v3 σ = some (r, σ2)) : Rc none (Ev MT CT d) sg45 (17, [(3, .int v3)], [], σ) (fun v s => v = some (.int r) ∧ s = σ2) := by
  unfold j_fewestAt_80_115_b17 at h
  refine Rc.blk (c := []) (s2 := (18, [(3, .int v3)], [.int v3], σ)) 4 rfl rfl (trivial) ?_
  obtain ⟨rfl, rfl⟩ := some_pair h
  exact Rc.ret 5 rfl rfl rfl trivial ⟨rfl, rfl⟩
theorem j_fewestAt_80_115_b39_ok {d : Nat} (hd : 14 ≤ d) (s0 : Int32) (σ : Sg) (r : Int32) (σ2 : Sg) (h : j_fewestAt_80_115_b39 s0 σ = some (r, σ2)) : Rc none (Ev MT CT d) sg45 (39, [], [.int s0], σ) (fun v s => v = some (.int r) ∧ s = σ2) := by
  unfold j_fewestAt_80_115_b39 at h
  obtain ⟨rfl, rfl⟩ := some_pair h
  exact Rc.ret 10 rfl rfl rfl trivial ⟨rfl, rfl⟩
theorem j_fewestAt_80_115_b37_ok {d : Nat} (hd : 14 ≤ d) (σ : Sg) (r : Int32) (σ2 : Sg) (h : j_fewestAt_80_115_b37 σ = some (r, σ2)) : Rc none (Ev MT CT d) sg45 (37, [], [], σ) (fun v s => v = some (.int r) ∧ s = σ2) := by
  unfold j_fewestAt_80_115_b37 at h
  refine Rc.blk (c := []) (s2 := (39, [], [.int (-9)], σ)) 9 rfl rfl (trivial) ?_
  exact j_fewestAt_80_115_b39_ok hd _ _ _ _ h
theorem j_fewestAt_80_115_ok {d : Nat} (hd : 15 ≤ d) {v2 : Int32} {σ : Sg} {r : Int32} {σ2 : Sg} (h : j_fewestAt_80_115 v2 σ = some (r, σ2)) : Ev MT CT d 45 [.ref 80, .ref 115, .int v2] σ (fun v s => v = some (.int r) ∧ s = σ2) := by
  obtain ⟨d, rfl⟩ : ∃ e, d = e + 1 := ⟨d - 1, by omega⟩
  refine ⟨Nat.le_of_ble_eq_true rfl, ?_⟩
  show Rc none (Ev MT CT d) sg45 (0, [(0, .ref 80), (1, .ref 115), (2, .int v2)], [], σ) _
  unfold j_fewestAt_80_115 at h
  have hd : 14 ≤ d := by omega
  refine Rc.blk (c := []) (s2 := (2, [(0, .ref 80), (1, .ref 115), (2, .int v2)], [.ref 115, .ref 80], σ)) 0 rfl rfl (trivial) ?_
  obtain ⟨r1, σ1, hc, h⟩ := bd_some h
  refine Rc.call (Ev.mono d) (v := some (.int r1)) (as := [.ref 80, .ref 115]) (r := []) 1 rfl rfl rfl rfl ⟨rfl, Nat.le_of_ble_eq_true rfl⟩ (j_findRow_80_115_ok (by omega) hc) ?_
  show Rc _ _ _ (5, [(0, .ref 80), (1, .ref 115), (2, .int v2)], [.int r1], σ1) _
  refine Rc.blk (c := []) (s2 := (if v2 = (-1) then 17 else 11, [(3, .int r1), (0, .ref 80), (1, .ref 115), (2, .int v2)], [], σ1)) 2 rfl rfl (trivial) ?_
  by_cases c6 : v2 = (-1)
  · rw [if_pos c6] at h
    refine Rc.ifp c6 ?_
    refine Rc.pick [0] (lv2 := [(3, .int r1)]) rfl ?_
    exact j_fewestAt_80_115_b17_ok hd _ _ _ _ h
  · rw [if_neg c6] at h
    refine Rc.ifn c6 ?_
    refine Rc.blk (c := []) (s2 := (if ¬ r1 = (-9) then 19 else 17, [(3, .int r1), (0, .ref 80), (1, .ref 115), (2, .int v2)], [], σ1)) 3 rfl rfl (trivial) ?_
    by_cases c5 : r1 = (-9)
    · rw [if_pos c5] at h
      refine Rc.ifn (fun q => q c5) ?_
      refine Rc.pick [0] (lv2 := [(3, .int r1)]) rfl ?_
      exact j_fewestAt_80_115_b17_ok hd _ _ _ _ h
    · rw [if_neg c5] at h
      refine Rc.ifp c5 ?_
      refine Rc.blk (c := []) (s2 := (if v2 < 0 then 37 else 23, [(3, .int r1), (0, .ref 80), (1, .ref 115), (2, .int v2)], [], σ1)) 6 rfl rfl (trivial) ?_
      by_cases c4 : v2 < 0
      · rw [if_pos c4] at h
        refine Rc.ifp c4 ?_
        refine Rc.pick [] (lv2 := []) rfl ?_
        exact j_fewestAt_80_115_b37_ok hd _ _ _ h
      · rw [if_neg c4] at h
        refine Rc.ifn c4 ?_
        refine Rc.blk (c := []) (s2 := (if r1 ≤ v2 then 37 else 28, [(3, .int r1), (0, .ref 80), (1, .ref 115), (2, .int v2)], [], σ1)) 7 rfl rfl (trivial) ?_
        by_cases c3 : r1 ≤ v2
        · rw [if_pos c3] at h
          refine Rc.ifp c3 ?_
          refine Rc.pick [] (lv2 := []) rfl ?_
          exact j_fewestAt_80_115_b37_ok hd _ _ _ h
        · rw [if_neg c3] at h
          refine Rc.ifn c3 ?_
          obtain ⟨g2, h⟩ := gd_some h
          refine Rc.blk (c := [_, _]) (s2 := (39, [(3, .int r1), (0, .ref 80), (1, .ref 115), (2, .int v2)], [.int (σ1.1 83 v2.toNatClampNeg)], σ1)) 8 rfl rfl (conj_c (rfl) (conj_c (⟨rfl, inB_in g2⟩) (trivial))) ?_
          refine Rc.pick [] (lv2 := []) rfl ?_
          exact j_fewestAt_80_115_b39_ok hd _ _ _ _ h
theorem j_takeNumbers_0_115_b54_ok {d : Nat} (hd : 1 ≤ d) (σ : Sg) (r : Int32) (σ2 : Sg) (h : j_takeNumbers_0_115_b54 σ = some (r, σ2)) : Rc none (Ev MT CT d) sg110 (54, [], [], σ) (fun v s => v = some (.int r) ∧ s = σ2) := by
  unfold j_takeNumbers_0_115_b54 at h
  refine Rc.blk (c := []) (s2 := (55, [], [.int 0], σ)) 9 rfl rfl (trivial) ?_
  obtain ⟨rfl, rfl⟩ := some_pair h
  exact Rc.ret 10 rfl rfl rfl (Or.inl rfl) ⟨rfl, rfl⟩
theorem j_takeNumbers_0_115_b35_ok {d : Nat} (hd : 1 ≤ d) {k3 : Int32 → Int32 → Int32 → Sg → Option (Int32 × Sg)} (hk3 : ∀ (v1 : Int32) (v2 : Int32) (v4 : Int32) (σ : Sg) (r : Int32) (σ2 : Sg), k3 v1 v2 v4 σ = some (r, σ2) → Rc none (Ev MT CT d) sg110 (3, [(0, .ref 0), (1, .int v1), (2, .int v2), (3, .ref 115), (4, .int v4)], [], σ) (fun v s => v = some (.int r) ∧ s = σ2)) (v1 : Int32) (v2 : Int32) (v4 : Int32) (s1 : Int32) (s2 : Int32) (σ : Sg) (r : Int32) (σ2 : Sg) (h : j_takeNumbers_0_115_b35 k3 v1 v2 v4 s1 s2 σ = some (r, σ2)) : Rc none (Ev MT CT d) sg110 (35, [(0, .ref 0), (1, .int v1), (2, .int v2), (3, .ref 115), (4, .int v4)], [.int s2, .int s1, .ref 115], σ) (fun v s => v = some (.int r) ∧ s = σ2) := by
  unfold j_takeNumbers_0_115_b35 at h
  obtain ⟨g1, h⟩ := gd_some h
  obtain ⟨g2, h⟩ := gd_some h
  refine Rc.blk (c := [_, _]) (s2 := (if ((si σ 115 s1.toNatClampNeg s2).1 115 v4.toNatClampNeg) < (-99) then 54 else 45, [(0, .ref 0), (1, .int v1), (2, .int v2), (3, .ref 115), (4, .int v4)], [], si σ 115 s1.toNatClampNeg s2)) 7 rfl rfl (conj_c (⟨rfl, inB_in g1⟩) (conj_c (⟨rfl, inB_in g2⟩) (trivial))) ?_
  by_cases c5 : ((si σ 115 s1.toNatClampNeg s2).1 115 v4.toNatClampNeg) < (-99)
  · rw [if_pos c5] at h
    refine Rc.ifp c5 ?_
    refine Rc.pick [] (lv2 := []) rfl ?_
    exact j_takeNumbers_0_115_b54_ok hd _ _ _ h
  · rw [if_neg c5] at h
    refine Rc.ifn c5 ?_
    obtain ⟨g3, h⟩ := gd_some h
    refine Rc.blk (c := [_]) (s2 := (if ((si σ 115 s1.toNatClampNeg s2).1 115 v4.toNatClampNeg) ≤ 99 then 56 else 54, [(0, .ref 0), (1, .int v1), (2, .int v2), (3, .ref 115), (4, .int v4)], [], si σ 115 s1.toNatClampNeg s2)) 8 rfl rfl (conj_c (⟨rfl, inB_in g3⟩) (trivial)) ?_
    by_cases c4 : ((si σ 115 s1.toNatClampNeg s2).1 115 v4.toNatClampNeg) ≤ 99
    · rw [if_pos c4] at h
      refine Rc.ifp c4 ?_
      refine Rc.blk (c := []) (s2 := (3, [(4, .int (v4 + 1)), (0, .ref 0), (1, .int v1), (2, .int v2), (3, .ref 115)], [], si σ 115 s1.toNatClampNeg s2)) 11 rfl rfl (trivial) ?_
      refine Rc.pick [1, 2, 3, 4, 0] (lv2 := [(0, .ref 0), (1, .int v1), (2, .int v2), (3, .ref 115), (4, .int (v4 + 1))]) rfl ?_
      exact hk3 _ _ _ _ _ _ h
    · rw [if_neg c4] at h
      refine Rc.ifn c4 ?_
      refine Rc.pick [] (lv2 := []) rfl ?_
      exact j_takeNumbers_0_115_b54_ok hd _ _ _ h
theorem j_takeNumbers_0_115_H3_ok {d : Nat} (hd : 1 ≤ d) {k3 : Int32 → Int32 → Int32 → Sg → Option (Int32 × Sg)} (hk3 : ∀ (v1 : Int32) (v2 : Int32) (v4 : Int32) (σ : Sg) (r : Int32) (σ2 : Sg), k3 v1 v2 v4 σ = some (r, σ2) → Rc none (Ev MT CT d) sg110 (3, [(0, .ref 0), (1, .int v1), (2, .int v2), (3, .ref 115), (4, .int v4)], [], σ) (fun v s => v = some (.int r) ∧ s = σ2)) (v1 : Int32) (v2 : Int32) (v4 : Int32) (σ : Sg) (r : Int32) (σ2 : Sg) (h : j_takeNumbers_0_115_H3 k3 v1 v2 v4 σ = some (r, σ2)) : Rc none (Ev MT CT d) sg110 (3, [(0, .ref 0), (1, .int v1), (2, .int v2), (3, .ref 115), (4, .int v4)], [], σ) (fun v s => v = some (.int r) ∧ s = σ2) := by
  unfold j_takeNumbers_0_115_H3 at h
  refine Rc.blk (c := []) (s2 := (if v2 ≤ v4 then 62 else 9, [(0, .ref 0), (1, .int v1), (2, .int v2), (3, .ref 115), (4, .int v4)], [], σ)) 1 rfl rfl (trivial) ?_
  by_cases c5 : v2 ≤ v4
  · rw [if_pos c5] at h
    refine Rc.ifp c5 ?_
    refine Rc.blk (c := []) (s2 := (63, [(0, .ref 0), (1, .int v1), (2, .int v2), (3, .ref 115), (4, .int v4)], [.int 1], σ)) 12 rfl rfl (trivial) ?_
    obtain ⟨rfl, rfl⟩ := some_pair h
    exact Rc.ret 13 rfl rfl rfl (Or.inr rfl) ⟨rfl, rfl⟩
  · rw [if_neg c5] at h
    refine Rc.ifn c5 ?_
    refine Rc.blk (c := []) (s2 := (16, [(0, .ref 0), (1, .int v1), (2, .int v2), (3, .ref 115), (4, .int v4)], [.int v4, .int v1, .ref 0, .int v4, .ref 115], σ)) 2 rfl rfl (trivial) ?_
    obtain ⟨r1, σ1, hc, h⟩ := bd_some h
    refine Rc.call (Ev.mono d) (v := some (.int r1)) (as := [.ref 0, .int v1, .int v4]) (r := [.int v4, .ref 115]) 3 rfl rfl rfl rfl ⟨rfl, Nat.le_of_ble_eq_true rfl⟩ (j_isPlace_0_ok (by omega) hc) ?_
    show Rc _ _ _ (19, [(0, .ref 0), (1, .int v1), (2, .int v2), (3, .ref 115), (4, .int v4)], [.int r1, .int v4, .ref 115], σ1) _
    refine Rc.blk (c := []) (s2 := (if r1 = 0 then 34 else 22, [(0, .ref 0), (1, .int v1), (2, .int v2), (3, .ref 115), (4, .int v4)], [.int v4, .ref 115], σ1)) 4 rfl rfl (trivial) ?_
    by_cases c4 : r1 = 0
    · rw [if_pos c4] at h
      refine Rc.ifp c4 ?_
      refine Rc.blk (c := []) (s2 := (35, [(0, .ref 0), (1, .int v1), (2, .int v2), (3, .ref 115), (4, .int v4)], [.int 0, .int v4, .ref 115], σ1)) 6 rfl rfl (trivial) ?_
      exact j_takeNumbers_0_115_b35_ok hd hk3 _ _ _ _ _ _ _ _ h
    · rw [if_neg c4] at h
      refine Rc.ifn c4 ?_
      obtain ⟨g2, h⟩ := gd_some h
      obtain ⟨g3, h⟩ := gd_some h
      refine Rc.blk (c := [_, _, _]) (s2 := (35, [(0, .ref 0), (1, .int v1), (2, .int v2), (3, .ref 115), (4, .int v4)], [.int (σ1.1 (108 + 1 + v1.toNatClampNeg) v4.toNatClampNeg), .int v4, .ref 115], σ1)) 5 rfl rfl (conj_c (rfl) (conj_c (⟨Or.inl rfl, inB_in g2⟩) (conj_c (arB_in g3) (trivial)))) ?_
      exact j_takeNumbers_0_115_b35_ok hd hk3 _ _ _ _ _ _ _ _ h
theorem j_takeNumbers_0_115_L3_ok {d : Nat} (hd : 1 ≤ d) : ∀ (n : Nat) (v1 : Int32) (v2 : Int32) (v4 : Int32) (σ : Sg) (r : Int32) (σ2 : Sg), j_takeNumbers_0_115_L3 n v1 v2 v4 σ = some (r, σ2) → Rc none (Ev MT CT d) sg110 (3, [(0, .ref 0), (1, .int v1), (2, .int v2), (3, .ref 115), (4, .int v4)], [], σ) (fun v s => v = some (.int r) ∧ s = σ2)
  | 0, _, _, _, _, _, _, h => by cases h
  | n + 1, v1, v2, v4, σ, r, σ2, h => j_takeNumbers_0_115_H3_ok hd (j_takeNumbers_0_115_L3_ok hd n) v1 v2 v4 σ r σ2 h
theorem j_takeNumbers_0_115_ok {d : Nat} (hd : 2 ≤ d) {v1 : Int32} {v2 : Int32} {σ : Sg} {r : Int32} {σ2 : Sg} (h : j_takeNumbers_0_115 v1 v2 σ = some (r, σ2)) : Ev MT CT d 110 [.ref 0, .int v1, .int v2, .ref 115] σ (fun v s => v = some (.int r) ∧ s = σ2) := by
  obtain ⟨d, rfl⟩ : ∃ e, d = e + 1 := ⟨d - 1, by omega⟩
  refine ⟨Nat.le_of_ble_eq_true rfl, ?_⟩
  show Rc none (Ev MT CT d) sg110 (0, [(0, .ref 0), (1, .int v1), (2, .int v2), (3, .ref 115)], [], σ) _
  unfold j_takeNumbers_0_115 at h
  have hd : 1 ≤ d := by omega
  refine Rc.blk (c := []) (s2 := (3, [(4, .int 0), (0, .ref 0), (1, .int v1), (2, .int v2), (3, .ref 115)], [], σ)) 0 rfl rfl (trivial) ?_
  refine Rc.pick [1, 2, 3, 4, 0] (lv2 := [(0, .ref 0), (1, .int v1), (2, .int v2), (3, .ref 115), (4, .int 0)]) rfl ?_
  exact j_takeNumbers_0_115_L3_ok hd fu _ _ _ _ _ _ h
theorem j_fewest_0_b70_ok {d : Nat} (hd : 15 ≤ d) (s0 : Int32) (σ : Sg) (r : Int32) (σ2 : Sg) (h : j_fewest_0_b70 s0 σ = some (r, σ2)) : Rc none (Ev MT CT d) sg80 (70, [], [.int s0], σ) (fun v s => v = some (.int r) ∧ s = σ2) := by
  unfold j_fewest_0_b70 at h
  obtain ⟨rfl, rfl⟩ := some_pair h
  exact Rc.ret 23 rfl rfl rfl trivial ⟨rfl, rfl⟩
theorem j_fewest_0_ok {d : Nat} (hd : 16 ≤ d) {v1 : Int32} {v2 : Int32} {σ : Sg} {r : Int32} {σ2 : Sg} (h : j_fewest_0 v1 v2 σ = some (r, σ2)) : Ev MT CT d 80 [.ref 0, .int v1, .int v2] σ (fun v s => v = some (.int r) ∧ s = σ2) := by
  obtain ⟨d, rfl⟩ : ∃ e, d = e + 1 := ⟨d - 1, by omega⟩
  refine ⟨Nat.le_of_ble_eq_true rfl, ?_⟩
  show Rc none (Ev MT CT d) sg80 (0, [(0, .ref 0), (1, .int v1), (2, .int v2)], [], σ) _
  unfold j_fewest_0 at h
  have hd : 15 ≤ d := by omega
  refine Rc.blk (c := []) (s2 := (1, [(0, .ref 0), (1, .int v1), (2, .int v2)], [.int v1], σ)) 0 rfl rfl (trivial) ?_
  obtain ⟨r1, σ1, hc, h⟩ := bd_some h
  refine Rc.call (Ev.mono d) (v := some (.int r1)) (as := [.int v1]) (r := []) 1 rfl rfl rfl rfl (Nat.le_of_ble_eq_true rfl) (j_isList_s_ok (by omega) hc) ?_
  show Rc _ _ _ (4, [(0, .ref 0), (1, .int v1), (2, .int v2)], [.int r1], σ1) _
  refine Rc.blk (c := []) (s2 := (if ¬ r1 = 0 then 13 else 7, [(0, .ref 0), (1, .int v1), (2, .int v2)], [], σ1)) 2 rfl rfl (trivial) ?_
  by_cases c11 : r1 = 0
  · rw [if_pos c11] at h
    refine Rc.ifn (fun q => q c11) ?_
    refine Rc.blk (c := []) (s2 := (9, [(0, .ref 0), (1, .int v1), (2, .int v2)], [.int (-1), .ref 0], σ1)) 3 rfl rfl (trivial) ?_
    obtain ⟨r10, σ10, hc, h⟩ := bd_some h
    refine Rc.call (Ev.mono d) (v := some (.int r10)) (as := [.ref 0, .int (-1)]) (r := []) 4 rfl rfl rfl rfl ⟨rfl, Nat.le_of_ble_eq_true rfl⟩ (j_refused_0_ok (by omega) hc) ?_
    show Rc _ _ _ (12, [(0, .ref 0), (1, .int v1), (2, .int v2)], [.int r10], σ10) _
    obtain ⟨rfl, rfl⟩ := some_pair h
    exact Rc.ret 5 rfl rfl rfl trivial ⟨rfl, rfl⟩
  · rw [if_neg c11] at h
    refine Rc.ifp c11 ?_
    refine Rc.blk (c := []) (s2 := (15, [(0, .ref 0), (1, .int v1), (2, .int v2)], [.int v1, .ref 0], σ1)) 6 rfl rfl (trivial) ?_
    obtain ⟨r2, σ2, hc, h⟩ := bd_some h
    refine Rc.call (Ev.mono d) (v := some (.int r2)) (as := [.ref 0, .int v1]) (r := []) 7 rfl rfl rfl rfl ⟨rfl, Nat.le_of_ble_eq_true rfl⟩ (j_isMissing_0_ok (by omega) hc) ?_
    show Rc _ _ _ (18, [(0, .ref 0), (1, .int v1), (2, .int v2)], [.int r2], σ2) _
    refine Rc.blk (c := []) (s2 := (if r2 = 0 then 24 else 21, [(0, .ref 0), (1, .int v1), (2, .int v2)], [], σ2)) 8 rfl rfl (trivial) ?_
    by_cases c9 : r2 = 0
    · rw [if_pos c9] at h
      refine Rc.ifp c9 ?_
      refine Rc.blk (c := [_]) (s2 := (31, [(0, .ref 0), (1, .int v1), (2, .int v2)], [.ref 115, .int 5, .int v1, .ref 0], σ2)) 11 rfl rfl (conj_c (rfl) (trivial)) ?_
      obtain ⟨r3, σ3, hc, h⟩ := bd_some h
      refine Rc.call (Ev.mono d) (v := some (.int r3)) (as := [.ref 0, .int v1, .int 5, .ref 115]) (r := []) 12 rfl rfl rfl rfl ⟨rfl, Nat.le_of_ble_eq_true rfl⟩ (j_takeNumbers_0_115_ok (by omega) hc) ?_
      show Rc _ _ _ (34, [(0, .ref 0), (1, .int v1), (2, .int v2)], [.int r3], σ3) _
      refine Rc.blk (c := []) (s2 := (if ¬ r3 = 0 then 44 else 37, [(0, .ref 0), (1, .int v1), (2, .int v2)], [], σ3)) 13 rfl rfl (trivial) ?_
      by_cases c8 : r3 = 0
      · rw [if_pos c8] at h
        refine Rc.ifn (fun q => q c8) ?_
        refine Rc.blk (c := []) (s2 := (40, [(0, .ref 0), (1, .int v1), (2, .int v2)], [.int (-3), .ref 0], σ3)) 14 rfl rfl (trivial) ?_
        obtain ⟨r7, σ7, hc, h⟩ := bd_some h
        refine Rc.call (Ev.mono d) (v := some (.int r7)) (as := [.ref 0, .int (-3)]) (r := []) 15 rfl rfl rfl rfl ⟨rfl, Nat.le_of_ble_eq_true rfl⟩ (j_refused_0_ok (by omega) hc) ?_
        show Rc _ _ _ (43, [(0, .ref 0), (1, .int v1), (2, .int v2)], [.int r7], σ7) _
        obtain ⟨rfl, rfl⟩ := some_pair h
        exact Rc.ret 16 rfl rfl rfl trivial ⟨rfl, rfl⟩
      · rw [if_neg c8] at h
        refine Rc.ifp c8 ?_
        refine Rc.blk (c := []) (s2 := (if (-1) ≤ v2 then 58 else 49, [(0, .ref 0), (1, .int v1), (2, .int v2)], [], σ3)) 17 rfl rfl (trivial) ?_
        by_cases c6 : (-1) ≤ v2
        · rw [if_pos c6] at h
          refine Rc.ifp c6 ?_
          refine Rc.blk (c := [_, _]) (s2 := (67, [(0, .ref 0), (1, .int v1), (2, .int v2)], [.int v2, .ref 115, .ref 80], σ3)) 21 rfl rfl (conj_c (rfl) (conj_c (rfl) (trivial))) ?_
          obtain ⟨r4, σ4, hc, h⟩ := bd_some h
          refine Rc.call (Ev.mono d) (v := some (.int r4)) (as := [.ref 80, .ref 115, .int v2]) (r := []) 22 rfl rfl rfl rfl ⟨rfl, Nat.le_of_ble_eq_true rfl⟩ (j_fewestAt_80_115_ok (by omega) hc) ?_
          show Rc _ _ _ (70, [(0, .ref 0), (1, .int v1), (2, .int v2)], [.int r4], σ4) _
          refine Rc.pick [] (lv2 := []) rfl ?_
          exact j_fewest_0_b70_ok hd _ _ _ _ h
        · rw [if_neg c6] at h
          refine Rc.ifn c6 ?_
          refine Rc.blk (c := []) (s2 := (52, [(0, .ref 0), (1, .int v1), (2, .int v2)], [.int (-4), .ref 0], σ3)) 18 rfl rfl (trivial) ?_
          obtain ⟨r5, σ5, hc, h⟩ := bd_some h
          refine Rc.call (Ev.mono d) (v := some (.int r5)) (as := [.ref 0, .int (-4)]) (r := []) 19 rfl rfl rfl rfl ⟨rfl, Nat.le_of_ble_eq_true rfl⟩ (j_refused_0_ok (by omega) hc) ?_
          show Rc _ _ _ (55, [(0, .ref 0), (1, .int v1), (2, .int v2)], [.int r5], σ5) _
          refine Rc.blk (c := []) (s2 := (70, [(0, .ref 0), (1, .int v1), (2, .int v2)], [.int r5], σ5)) 20 rfl rfl (trivial) ?_
          refine Rc.pick [] (lv2 := []) rfl ?_
          exact j_fewest_0_b70_ok hd _ _ _ _ h
    · rw [if_neg c9] at h
      refine Rc.ifn c9 ?_
      refine Rc.blk (c := []) (s2 := (23, [(0, .ref 0), (1, .int v1), (2, .int v2)], [.int (-11)], σ2)) 9 rfl rfl (trivial) ?_
      obtain ⟨rfl, rfl⟩ := some_pair h
      exact Rc.ret 10 rfl rfl rfl trivial ⟨rfl, rfl⟩
theorem j_fillAJJ_84_H6_ok {d : Nat} (hd : 0 ≤ d) {k6 : Int64 → Int32 → Int32 → Sg → Option (Unit × Sg)} (hk6 : ∀ (v1 : Int64) (v3 : Int32) (v4 : Int32) (σ : Sg) (r : Unit) (σ2 : Sg), k6 v1 v3 v4 σ = some (r, σ2) → Rc none (Ev MT CT d) sg229 (6, [(0, .ref 84), (1, .long v1), (3, .int v3), (4, .int v4)], [], σ) (fun v s => v = none ∧ s = σ2)) (v1 : Int64) (v3 : Int32) (v4 : Int32) (σ : Sg) (r : Unit) (σ2 : Sg) (h : j_fillAJJ_84_H6 k6 v1 v3 v4 σ = some (r, σ2)) : Rc none (Ev MT CT d) sg229 (6, [(0, .ref 84), (1, .long v1), (3, .int v3), (4, .int v4)], [], σ) (fun v s => v = none ∧ s = σ2) := by
  unfold j_fillAJJ_84_H6 at h
  refine Rc.blk (c := []) (s2 := (if v4 ≤ v3 then 22 else 12, [(0, .ref 84), (1, .long v1), (3, .int v3), (4, .int v4)], [], σ)) 1 rfl rfl (trivial) ?_
  by_cases c2 : v4 ≤ v3
  · rw [if_pos c2] at h
    refine Rc.ifp c2 ?_
    obtain ⟨rfl, rfl⟩ := some_pair h
    exact Rc.ret 3 rfl rfl rfl trivial ⟨rfl, rfl⟩
  · rw [if_neg c2] at h
    refine Rc.ifn c2 ?_
    obtain ⟨g1, h⟩ := gd_some h
    refine Rc.blk (c := [_]) (s2 := (6, [(3, .int (v3 + 1)), (0, .ref 84), (1, .long v1), (4, .int v4)], [], sl σ 84 v3.toNatClampNeg v1)) 2 rfl rfl (conj_c (⟨rfl, inB_in g1⟩) (trivial)) ?_
    refine Rc.pick [1, 2, 0, 3] (lv2 := [(0, .ref 84), (1, .long v1), (3, .int (v3 + 1)), (4, .int v4)]) rfl ?_
    exact hk6 _ _ _ _ _ _ h
theorem j_fillAJJ_84_L6_ok {d : Nat} (hd : 0 ≤ d) : ∀ (n : Nat) (v1 : Int64) (v3 : Int32) (v4 : Int32) (σ : Sg) (r : Unit) (σ2 : Sg), j_fillAJJ_84_L6 n v1 v3 v4 σ = some (r, σ2) → Rc none (Ev MT CT d) sg229 (6, [(0, .ref 84), (1, .long v1), (3, .int v3), (4, .int v4)], [], σ) (fun v s => v = none ∧ s = σ2)
  | 0, _, _, _, _, _, _, h => by cases h
  | n + 1, v1, v3, v4, σ, r, σ2, h => j_fillAJJ_84_H6_ok hd (j_fillAJJ_84_L6_ok hd n) v1 v3 v4 σ r σ2 h
theorem j_fillAJJ_84_ok {d : Nat} (hd : 1 ≤ d) {v1 : Int64} {σ : Sg} {r : Unit} {σ2 : Sg} (h : j_fillAJJ_84 v1 σ = some (r, σ2)) : Ev MT CT d 229 [.ref 84, .long v1] σ (fun v s => v = none ∧ s = σ2) := by
  obtain ⟨d, rfl⟩ : ∃ e, d = e + 1 := ⟨d - 1, by omega⟩
  refine ⟨Nat.le_of_ble_eq_true rfl, ?_⟩
  show Rc none (Ev MT CT d) sg229 (0, [(0, .ref 84), (1, .long v1)], [], σ) _
  unfold j_fillAJJ_84 at h
  have hd : 0 ≤ d := by omega
  refine Rc.blk (c := [_]) (s2 := (6, [(4, .int 1024), (3, .int 0), (0, .ref 84), (1, .long v1)], [], σ)) 0 rfl rfl (conj_c ((by decide)) (trivial)) ?_
  refine Rc.pick [2, 3, 1, 0] (lv2 := [(0, .ref 84), (1, .long v1), (3, .int 0), (4, .int 1024)]) rfl ?_
  exact j_fillAJJ_84_L6_ok hd fu _ _ _ _ _ _ h
theorem j_isNew_84_H17_ok {d : Nat} (hd : 0 ≤ d) {k17 : Int64 → Int32 → Int32 → Sg → Option (Int32 × Sg)} (hk17 : ∀ (v1 : Int64) (v3 : Int32) (v4 : Int32) (σ : Sg) (r : Int32) (σ2 : Sg), k17 v1 v3 v4 σ = some (r, σ2) → Rc none (Ev MT CT d) sg44 (17, [(0, .ref 84), (1, .long v1), (3, .int v3), (4, .int v4)], [], σ) (fun v s => v = some (.int r) ∧ s = σ2)) (v1 : Int64) (v3 : Int32) (v4 : Int32) (σ : Sg) (r : Int32) (σ2 : Sg) (h : j_isNew_84_H17 k17 v1 v3 v4 σ = some (r, σ2)) : Rc none (Ev MT CT d) sg44 (17, [(0, .ref 84), (1, .long v1), (3, .int v3), (4, .int v4)], [], σ) (fun v s => v = some (.int r) ∧ s = σ2) := by
  unfold j_isNew_84_H17 at h
  refine Rc.blk (c := []) (s2 := (if 1024 ≤ v4 then 65 else 25, [(0, .ref 84), (1, .long v1), (3, .int v3), (4, .int v4)], [], σ)) 1 rfl rfl (trivial) ?_
  by_cases c6 : 1024 ≤ v4
  · rw [if_pos c6] at h
    refine Rc.ifp c6 ?_
    refine Rc.blk (c := []) (s2 := (66, [(0, .ref 84), (1, .long v1), (3, .int v3), (4, .int v4)], [.int 0], σ)) 9 rfl rfl (trivial) ?_
    obtain ⟨rfl, rfl⟩ := some_pair h
    exact Rc.ret 10 rfl rfl rfl (Or.inl rfl) ⟨rfl, rfl⟩
  · rw [if_neg c6] at h
    refine Rc.ifn c6 ?_
    obtain ⟨g1, h⟩ := gd_some h
    refine Rc.blk (c := [_]) (s2 := (if ¬ (lg_cmp (σ.2 84 v3.toNatClampNeg) v1) = 0 then 35 else 33, [(0, .ref 84), (1, .long v1), (3, .int v3), (4, .int v4)], [], σ)) 2 rfl rfl (conj_c (⟨rfl, inB_in g1⟩) (trivial)) ?_
    by_cases c5 : (lg_cmp (σ.2 84 v3.toNatClampNeg) v1) = 0
    · rw [if_pos c5] at h
      refine Rc.ifn (fun q => q c5) ?_
      refine Rc.blk (c := []) (s2 := (34, [(0, .ref 84), (1, .long v1), (3, .int v3), (4, .int v4)], [.int 0], σ)) 3 rfl rfl (trivial) ?_
      obtain ⟨rfl, rfl⟩ := some_pair h
      exact Rc.ret 4 rfl rfl rfl (Or.inl rfl) ⟨rfl, rfl⟩
    · rw [if_neg c5] at h
      refine Rc.ifp c5 ?_
      obtain ⟨g2, h⟩ := gd_some h
      refine Rc.blk (c := [_]) (s2 := (if ¬ (lg_cmp (σ.2 84 v3.toNatClampNeg) (-9223372036854775808)) = 0 then 51 else 45, [(0, .ref 84), (1, .long v1), (3, .int v3), (4, .int v4)], [], σ)) 5 rfl rfl (conj_c (⟨rfl, inB_in g2⟩) (trivial)) ?_
      by_cases c4 : (lg_cmp (σ.2 84 v3.toNatClampNeg) (-9223372036854775808)) = 0
      · rw [if_pos c4] at h
        refine Rc.ifn (fun q => q c4) ?_
        obtain ⟨g3, h⟩ := gd_some h
        refine Rc.blk (c := [_]) (s2 := (50, [(0, .ref 84), (1, .long v1), (3, .int v3), (4, .int v4)], [.int 1], sl σ 84 v3.toNatClampNeg v1)) 6 rfl rfl (conj_c (⟨rfl, inB_in g3⟩) (trivial)) ?_
        obtain ⟨rfl, rfl⟩ := some_pair h
        exact Rc.ret 7 rfl rfl rfl (Or.inr rfl) ⟨rfl, rfl⟩
      · rw [if_neg c4] at h
        refine Rc.ifp c4 ?_
        refine Rc.blk (c := [_]) (s2 := (17, [(4, .int (v4 + 1)), (3, .int (irm (v3 + 1) 1024)), (0, .ref 84), (1, .long v1)], [], σ)) 8 rfl rfl (conj_c ((by decide)) (trivial)) ?_
        refine Rc.pick [2, 3, 1, 0] (lv2 := [(0, .ref 84), (1, .long v1), (3, .int (irm (v3 + 1) 1024)), (4, .int (v4 + 1))]) rfl ?_
        exact hk17 _ _ _ _ _ _ h
theorem j_isNew_84_L17_ok {d : Nat} (hd : 0 ≤ d) : ∀ (n : Nat) (v1 : Int64) (v3 : Int32) (v4 : Int32) (σ : Sg) (r : Int32) (σ2 : Sg), j_isNew_84_L17 n v1 v3 v4 σ = some (r, σ2) → Rc none (Ev MT CT d) sg44 (17, [(0, .ref 84), (1, .long v1), (3, .int v3), (4, .int v4)], [], σ) (fun v s => v = some (.int r) ∧ s = σ2)
  | 0, _, _, _, _, _, _, h => by cases h
  | n + 1, v1, v3, v4, σ, r, σ2, h => j_isNew_84_H17_ok hd (j_isNew_84_L17_ok hd n) v1 v3 v4 σ r σ2 h
theorem j_isNew_84_ok {d : Nat} (hd : 1 ≤ d) {v1 : Int64} {σ : Sg} {r : Int32} {σ2 : Sg} (h : j_isNew_84 v1 σ = some (r, σ2)) : Ev MT CT d 44 [.ref 84, .long v1] σ (fun v s => v = some (.int r) ∧ s = σ2) := by
  obtain ⟨d, rfl⟩ : ∃ e, d = e + 1 := ⟨d - 1, by omega⟩
  refine ⟨Nat.le_of_ble_eq_true rfl, ?_⟩
  show Rc none (Ev MT CT d) sg44 (0, [(0, .ref 84), (1, .long v1)], [], σ) _
  unfold j_isNew_84 at h
  have hd : 0 ≤ d := by omega
  refine Rc.blk (c := [_]) (s2 := (17, [(4, .int 0), (3, .int ((lrm (lush (v1 * (-7046029254386353131)) 40) 1024).toInt32)), (0, .ref 84), (1, .long v1)], [], σ)) 0 rfl rfl (conj_c ((by decide)) (trivial)) ?_
  refine Rc.pick [2, 3, 1, 0] (lv2 := [(0, .ref 84), (1, .long v1), (3, .int ((lrm (lush (v1 * (-7046029254386353131)) 40) 1024).toInt32)), (4, .int 0)]) rfl ?_
  exact j_isNew_84_L17_ok hd fu _ _ _ _ _ _ h
theorem j_gather_84_61_H28_ok (d0 : Nat) (rs : Int32 → Int32 → Int32 → Int64 → Sg → Option (Int32 × Sg)) (hrs : ∀ (v2 : Int32) (v3 : Int32) (v4 : Int32) (v5 : Int64) (σ : Sg) (r : Int32) (σ2 : Sg), rs v2 v3 v4 v5 σ = some (r, σ2) → Ev MT CT d0 43 [.ref 84, .ref 61, .int v2, .int v3, .int v4, .long v5] σ (fun v s => v = some (.int r) ∧ s = σ2)) {d : Nat} (hd : 1 ≤ d) (hd0 : d0 + 0 ≤ d) {k28 : Int32 → Int32 → Int32 → Int64 → Int32 → Int32 → Sg → Option (Int32 × Sg)} (hk28 : ∀ (v2 : Int32) (v3 : Int32) (v4 : Int32) (v5 : Int64) (v7 : Int32) (v8 : Int32) (σ : Sg) (r : Int32) (σ2 : Sg), k28 v2 v3 v4 v5 v7 v8 σ = some (r, σ2) → Rc none (Ev MT CT d) sg43 (28, [(0, .ref 84), (1, .ref 61), (2, .int v2), (3, .int v3), (4, .int v4), (5, .long v5), (7, .int v7), (8, .int v8)], [], σ) (fun v s => v = some (.int r) ∧ s = σ2)) (v2 : Int32) (v3 : Int32) (v4 : Int32) (v5 : Int64) (v7 : Int32) (v8 : Int32) (σ : Sg) (r : Int32) (σ2 : Sg) (h : j_gather_84_61_H28 rs k28 v2 v3 v4 v5 v7 v8 σ = some (r, σ2)) : Rc none (Ev MT CT d) sg43 (28, [(0, .ref 84), (1, .ref 61), (2, .int v2), (3, .int v3), (4, .int v4), (5, .long v5), (7, .int v7), (8, .int v8)], [], σ) (fun v s => v = some (.int r) ∧ s = σ2) := by
  unfold j_gather_84_61_H28 at h
  refine Rc.blk (c := []) (s2 := (if v4 < v8 then 73 else 35, [(0, .ref 84), (1, .ref 61), (2, .int v2), (3, .int v3), (4, .int v4), (5, .long v5), (7, .int v7), (8, .int v8)], [], σ)) 8 rfl rfl (trivial) ?_
  by_cases c3 : v4 < v8
  · rw [if_pos c3] at h
    refine Rc.ifp c3 ?_
    refine Rc.blk (c := []) (s2 := (75, [(0, .ref 84), (1, .ref 61), (2, .int v2), (3, .int v3), (4, .int v4), (5, .long v5), (7, .int v7), (8, .int v8)], [.int v7], σ)) 12 rfl rfl (trivial) ?_
    obtain ⟨rfl, rfl⟩ := some_pair h
    exact Rc.ret 13 rfl rfl rfl trivial ⟨rfl, rfl⟩
  · rw [if_neg c3] at h
    refine Rc.ifn c3 ?_
    obtain ⟨g1, h⟩ := gd_some h
    refine Rc.blk (c := [_, _]) (s2 := (61, [(0, .ref 84), (1, .ref 61), (2, .int v2), (3, .int v3), (4, .int v4), (5, .long v5), (7, .int v7), (8, .int v8)], [.long (v5 + (v8.toInt64 * (σ.2 61 v3.toNatClampNeg))), .int (v4 - (iabs v8)), .int (v3 + 1), .int v2, .ref 61, .ref 84, .int v7], σ)) 9 rfl rfl (conj_c (Nat.le_of_ble_eq_true rfl) (conj_c (⟨rfl, inB_in g1⟩) (trivial))) ?_
    obtain ⟨r2, σ2, hc, h⟩ := bd_some h
    refine Rc.call (Ev.mono d) (v := some (.int r2)) (as := [.ref 84, .ref 61, .int v2, .int (v3 + 1), .int (v4 - (iabs v8)), .long (v5 + (v8.toInt64 * (σ.2 61 v3.toNatClampNeg)))]) (r := [.int v7]) 10 rfl rfl rfl rfl (Nat.le_of_ble_eq_true rfl) (Ev.le (by omega) (hrs _ _ _ _ _ _ _ hc)) ?_
    show Rc _ _ _ (64, [(0, .ref 84), (1, .ref 61), (2, .int v2), (3, .int v3), (4, .int v4), (5, .long v5), (7, .int v7), (8, .int v8)], [.int r2, .int v7], σ2) _
    refine Rc.blk (c := []) (s2 := (28, [(8, .int (v8 + 1)), (7, .int (v7 + r2)), (0, .ref 84), (1, .ref 61), (2, .int v2), (3, .int v3), (4, .int v4), (5, .long v5)], [], σ2)) 11 rfl rfl (trivial) ?_
    refine Rc.pick [2, 3, 4, 5, 6, 7, 1, 0] (lv2 := [(0, .ref 84), (1, .ref 61), (2, .int v2), (3, .int v3), (4, .int v4), (5, .long v5), (7, .int (v7 + r2)), (8, .int (v8 + 1))]) rfl ?_
    exact hk28 _ _ _ _ _ _ _ _ _ h
theorem j_gather_84_61_L28_ok (d0 : Nat) (rs : Int32 → Int32 → Int32 → Int64 → Sg → Option (Int32 × Sg)) (hrs : ∀ (v2 : Int32) (v3 : Int32) (v4 : Int32) (v5 : Int64) (σ : Sg) (r : Int32) (σ2 : Sg), rs v2 v3 v4 v5 σ = some (r, σ2) → Ev MT CT d0 43 [.ref 84, .ref 61, .int v2, .int v3, .int v4, .long v5] σ (fun v s => v = some (.int r) ∧ s = σ2)) {d : Nat} (hd : 1 ≤ d) (hd0 : d0 + 0 ≤ d) : ∀ (n : Nat) (v2 : Int32) (v3 : Int32) (v4 : Int32) (v5 : Int64) (v7 : Int32) (v8 : Int32) (σ : Sg) (r : Int32) (σ2 : Sg), j_gather_84_61_L28 rs n v2 v3 v4 v5 v7 v8 σ = some (r, σ2) → Rc none (Ev MT CT d) sg43 (28, [(0, .ref 84), (1, .ref 61), (2, .int v2), (3, .int v3), (4, .int v4), (5, .long v5), (7, .int v7), (8, .int v8)], [], σ) (fun v s => v = some (.int r) ∧ s = σ2)
  | 0, _, _, _, _, _, _, _, _, _, h => by cases h
  | n + 1, v2, v3, v4, v5, v7, v8, σ, r, σ2, h => j_gather_84_61_H28_ok d0 rs hrs hd hd0 (j_gather_84_61_L28_ok d0 rs hrs hd hd0 n) v2 v3 v4 v5 v7 v8 σ r σ2 h
theorem j_gather_84_61_b19_ok (d0 : Nat) (rs : Int32 → Int32 → Int32 → Int64 → Sg → Option (Int32 × Sg)) (hrs : ∀ (v2 : Int32) (v3 : Int32) (v4 : Int32) (v5 : Int64) (σ : Sg) (r : Int32) (σ2 : Sg), rs v2 v3 v4 v5 σ = some (r, σ2) → Ev MT CT d0 43 [.ref 84, .ref 61, .int v2, .int v3, .int v4, .long v5] σ (fun v s => v = some (.int r) ∧ s = σ2)) {d : Nat} (hd : 1 ≤ d) (hd0 : d0 + 0 ≤ d) (s0 : Int32) (σ : Sg) (r : Int32) (σ2 : Sg) (h : j_gather_84_61_b19 rs s0 σ = some (r, σ2)) : Rc none (Ev MT CT d) sg43 (19, [], [.int s0], σ) (fun v s => v = some (.int r) ∧ s = σ2) := by
  unfold j_gather_84_61_b19 at h
  obtain ⟨rfl, rfl⟩ := some_pair h
  exact Rc.ret 6 rfl rfl rfl trivial ⟨rfl, rfl⟩
theorem j_gather_84_61_H_ok (d0 : Nat) (rs : Int32 → Int32 → Int32 → Int64 → Sg → Option (Int32 × Sg)) (hrs : ∀ (v2 : Int32) (v3 : Int32) (v4 : Int32) (v5 : Int64) (σ : Sg) (r : Int32) (σ2 : Sg), rs v2 v3 v4 v5 σ = some (r, σ2) → Ev MT CT d0 43 [.ref 84, .ref 61, .int v2, .int v3, .int v4, .long v5] σ (fun v s => v = some (.int r) ∧ s = σ2)) {d : Nat} (hd : 2 ≤ d) (hd0 : d0 + 1 ≤ d) {v2 : Int32} {v3 : Int32} {v4 : Int32} {v5 : Int64} {σ : Sg} {r : Int32} {σ2 : Sg} (h : j_gather_84_61_H rs v2 v3 v4 v5 σ = some (r, σ2)) : Ev MT CT d 43 [.ref 84, .ref 61, .int v2, .int v3, .int v4, .long v5] σ (fun v s => v = some (.int r) ∧ s = σ2) := by
  obtain ⟨d, rfl⟩ : ∃ e, d = e + 1 := ⟨d - 1, by omega⟩
  refine ⟨Nat.le_of_ble_eq_true rfl, ?_⟩
  show Rc none (Ev MT CT d) sg43 (0, [(0, .ref 84), (1, .ref 61), (2, .int v2), (3, .int v3), (4, .int v4), (5, .long v5)], [], σ) _
  unfold j_gather_84_61_H at h
  have hd : 1 ≤ d := by omega
  have hd0 : d0 + 0 ≤ d := by omega
  refine Rc.blk (c := []) (s2 := (if v3 < v2 then 20 else 5, [(0, .ref 84), (1, .ref 61), (2, .int v2), (3, .int v3), (4, .int v4), (5, .long v5)], [], σ)) 0 rfl rfl (trivial) ?_
  by_cases c3 : v3 < v2
  · rw [if_pos c3] at h
    refine Rc.ifp c3 ?_
    refine Rc.blk (c := []) (s2 := (28, [(8, .int (-v4)), (7, .int 0), (0, .ref 84), (1, .ref 61), (2, .int v2), (3, .int v3), (4, .int v4), (5, .long v5)], [], σ)) 7 rfl rfl (trivial) ?_
    refine Rc.pick [2, 3, 4, 5, 6, 7, 1, 0] (lv2 := [(0, .ref 84), (1, .ref 61), (2, .int v2), (3, .int v3), (4, .int v4), (5, .long v5), (7, .int 0), (8, .int (-v4))]) rfl ?_
    exact j_gather_84_61_L28_ok d0 rs hrs hd hd0 fu _ _ _ _ _ _ _ _ _ h
  · rw [if_neg c3] at h
    refine Rc.ifn c3 ?_
    refine Rc.blk (c := []) (s2 := (8, [(0, .ref 84), (1, .ref 61), (2, .int v2), (3, .int v3), (4, .int v4), (5, .long v5)], [.long v5, .ref 84], σ)) 1 rfl rfl (trivial) ?_
    obtain ⟨r1, σ1, hc, h⟩ := bd_some h
    refine Rc.call (Ev.mono d) (v := some (.int r1)) (as := [.ref 84, .long v5]) (r := []) 2 rfl rfl rfl rfl (Nat.le_of_ble_eq_true rfl) (j_isNew_84_ok (by omega) hc) ?_
    show Rc _ _ _ (11, [(0, .ref 84), (1, .ref 61), (2, .int v2), (3, .int v3), (4, .int v4), (5, .long v5)], [.int r1], σ1) _
    refine Rc.blk (c := []) (s2 := (if r1 = 0 then 18 else 14, [(0, .ref 84), (1, .ref 61), (2, .int v2), (3, .int v3), (4, .int v4), (5, .long v5)], [], σ1)) 3 rfl rfl (trivial) ?_
    by_cases c2 : r1 = 0
    · rw [if_pos c2] at h
      refine Rc.ifp c2 ?_
      refine Rc.blk (c := []) (s2 := (19, [(0, .ref 84), (1, .ref 61), (2, .int v2), (3, .int v3), (4, .int v4), (5, .long v5)], [.int 0], σ1)) 5 rfl rfl (trivial) ?_
      refine Rc.pick [] (lv2 := []) rfl ?_
      exact j_gather_84_61_b19_ok d0 rs hrs hd hd0 _ _ _ _ h
    · rw [if_neg c2] at h
      refine Rc.ifn c2 ?_
      refine Rc.blk (c := []) (s2 := (19, [(0, .ref 84), (1, .ref 61), (2, .int v2), (3, .int v3), (4, .int v4), (5, .long v5)], [.int 1], σ1)) 4 rfl rfl (trivial) ?_
      refine Rc.pick [] (lv2 := []) rfl ?_
      exact j_gather_84_61_b19_ok d0 rs hrs hd hd0 _ _ _ _ h
theorem j_gather_84_61_lv : ∀ (n : Nat) (v2 : Int32) (v3 : Int32) (v4 : Int32) (v5 : Int64) (σ : Sg) (r : Int32) (σ2 : Sg), j_gather_84_61 n v2 v3 v4 v5 σ = some (r, σ2) → Ev MT CT (2 + 1 * n) 43 [.ref 84, .ref 61, .int v2, .int v3, .int v4, .long v5] σ (fun v s => v = some (.int r) ∧ s = σ2)
  | 0, _, _, _, _, _, _, _, h => by cases h
  | n + 1, v2, v3, v4, v5, σ, r, σ2, h => j_gather_84_61_H_ok (2 + 1 * n) (j_gather_84_61 n) (j_gather_84_61_lv n) (by omega) (by omega) h
theorem j_gather_84_61_top {d : Nat} (hd : 14 ≤ d) {v2 : Int32} {v3 : Int32} {v4 : Int32} {v5 : Int64} {σ : Sg} {r : Int32} {σ2 : Sg} (h : j_gather_84_61 12 v2 v3 v4 v5 σ = some (r, σ2)) : Ev MT CT d 43 [.ref 84, .ref 61, .int v2, .int v3, .int v4, .long v5] σ (fun v s => v = some (.int r) ∧ s = σ2) := Ev.le (by omega) (j_gather_84_61_lv 12 v2 v3 v4 v5 σ r σ2 h)
theorem j_dimensionsHad_80_ok {d : Nat} (hd : 15 ≤ d) {v1 : Int32} {σ : Sg} {r : Int32} {σ2 : Sg} (h : j_dimensionsHad_80 v1 σ = some (r, σ2)) : Ev MT CT d 42 [.ref 80, .int v1] σ (fun v s => v = some (.int r) ∧ s = σ2) := by
  obtain ⟨d, rfl⟩ : ∃ e, d = e + 1 := ⟨d - 1, by omega⟩
  refine ⟨Nat.le_of_ble_eq_true rfl, ?_⟩
  show Rc none (Ev MT CT d) sg42 (0, [(0, .ref 80), (1, .int v1)], [], σ) _
  unfold j_dimensionsHad_80 at h
  have hd : 14 ≤ d := by omega
  refine Rc.blk (c := [_]) (s2 := (7, [(0, .ref 80), (1, .int v1)], [.long (-9223372036854775808), .ref 84], σ)) 0 rfl rfl (conj_c (rfl) (trivial)) ?_
  obtain ⟨r1, σ1, hc, h⟩ := bd_some h
  refine Rc.call (Ev.mono d) (v := none) (as := [.ref 84, .long (-9223372036854775808)]) (r := []) 1 rfl rfl rfl rfl (Nat.le_of_ble_eq_true rfl) (j_fillAJJ_84_ok (by omega) hc) ?_
  show Rc _ _ _ (10, [(0, .ref 80), (1, .int v1)], [], σ1) _
  refine Rc.blk (c := [_, _, _, _, _]) (s2 := (31, [(0, .ref 80), (1, .int v1)], [.long 0, .int v1, .int 0, .int (σ1.1 51 0), .ref 61, .ref 84], σ1)) 2 rfl rfl (conj_c (rfl) (conj_c (rfl) (conj_c (rfl) (conj_c (rfl) (conj_c (rfl) (trivial)))))) ?_
  obtain ⟨r2, σ2, hc, h⟩ := bd_some h
  refine Rc.call (Ev.mono d) (v := some (.int r2)) (as := [.ref 84, .ref 61, .int (σ1.1 51 0), .int 0, .int v1, .long 0]) (r := []) 3 rfl rfl rfl rfl (Nat.le_of_ble_eq_true rfl) (j_gather_84_61_top (by omega) hc) ?_
  show Rc _ _ _ (34, [(0, .ref 80), (1, .int v1)], [.int r2], σ2) _
  obtain ⟨rfl, rfl⟩ := some_pair h
  exact Rc.ret 4 rfl rfl rfl trivial ⟨rfl, rfl⟩
theorem j_had_0_b33_ok {d : Nat} (hd : 15 ≤ d) (s0 : Int32) (σ : Sg) (r : Int32) (σ2 : Sg) (h : j_had_0_b33 s0 σ = some (r, σ2)) : Rc none (Ev MT CT d) sg81 (33, [], [.int s0], σ) (fun v s => v = some (.int r) ∧ s = σ2) := by
  unfold j_had_0_b33 at h
  obtain ⟨rfl, rfl⟩ := some_pair h
  exact Rc.ret 10 rfl rfl rfl trivial ⟨rfl, rfl⟩
theorem j_had_0_ok {d : Nat} (hd : 16 ≤ d) {v1 : Int32} {σ : Sg} {r : Int32} {σ2 : Sg} (h : j_had_0 v1 σ = some (r, σ2)) : Ev MT CT d 81 [.ref 0, .int v1] σ (fun v s => v = some (.int r) ∧ s = σ2) := by
  obtain ⟨d, rfl⟩ : ∃ e, d = e + 1 := ⟨d - 1, by omega⟩
  refine ⟨Nat.le_of_ble_eq_true rfl, ?_⟩
  show Rc none (Ev MT CT d) sg81 (0, [(0, .ref 0), (1, .int v1)], [], σ) _
  unfold j_had_0 at h
  have hd : 15 ≤ d := by omega
  refine Rc.blk (c := []) (s2 := (if 0 ≤ v1 then 11 else 4, [(0, .ref 0), (1, .int v1)], [], σ)) 0 rfl rfl (trivial) ?_
  by_cases c5 : 0 ≤ v1
  · rw [if_pos c5] at h
    refine Rc.ifp c5 ?_
    refine Rc.blk (c := []) (s2 := (if v1 ≤ 3 then 25 else 16, [(0, .ref 0), (1, .int v1)], [], σ)) 4 rfl rfl (trivial) ?_
    by_cases c3 : v1 ≤ 3
    · rw [if_pos c3] at h
      refine Rc.ifp c3 ?_
      refine Rc.blk (c := [_]) (s2 := (30, [(0, .ref 0), (1, .int v1)], [.int v1, .ref 80], σ)) 8 rfl rfl (conj_c (rfl) (trivial)) ?_
      obtain ⟨r1, σ1, hc, h⟩ := bd_some h
      refine Rc.call (Ev.mono d) (v := some (.int r1)) (as := [.ref 80, .int v1]) (r := []) 9 rfl rfl rfl rfl ⟨rfl, Nat.le_of_ble_eq_true rfl⟩ (j_dimensionsHad_80_ok (by omega) hc) ?_
      show Rc _ _ _ (33, [(0, .ref 0), (1, .int v1)], [.int r1], σ1) _
      refine Rc.pick [] (lv2 := []) rfl ?_
      exact j_had_0_b33_ok hd _ _ _ _ h
    · rw [if_neg c3] at h
      refine Rc.ifn c3 ?_
      refine Rc.blk (c := []) (s2 := (19, [(0, .ref 0), (1, .int v1)], [.int (-6), .ref 0], σ)) 5 rfl rfl (trivial) ?_
      obtain ⟨r2, σ2, hc, h⟩ := bd_some h
      refine Rc.call (Ev.mono d) (v := some (.int r2)) (as := [.ref 0, .int (-6)]) (r := []) 6 rfl rfl rfl rfl ⟨rfl, Nat.le_of_ble_eq_true rfl⟩ (j_refused_0_ok (by omega) hc) ?_
      show Rc _ _ _ (22, [(0, .ref 0), (1, .int v1)], [.int r2], σ2) _
      refine Rc.blk (c := []) (s2 := (33, [(0, .ref 0), (1, .int v1)], [.int r2], σ2)) 7 rfl rfl (trivial) ?_
      refine Rc.pick [] (lv2 := []) rfl ?_
      exact j_had_0_b33_ok hd _ _ _ _ h
  · rw [if_neg c5] at h
    refine Rc.ifn c5 ?_
    refine Rc.blk (c := []) (s2 := (7, [(0, .ref 0), (1, .int v1)], [.int (-4), .ref 0], σ)) 1 rfl rfl (trivial) ?_
    obtain ⟨r4, σ4, hc, h⟩ := bd_some h
    refine Rc.call (Ev.mono d) (v := some (.int r4)) (as := [.ref 0, .int (-4)]) (r := []) 2 rfl rfl rfl rfl ⟨rfl, Nat.le_of_ble_eq_true rfl⟩ (j_refused_0_ok (by omega) hc) ?_
    show Rc _ _ _ (10, [(0, .ref 0), (1, .int v1)], [.int r4], σ4) _
    obtain ⟨rfl, rfl⟩ := some_pair h
    exact Rc.ret 3 rfl rfl rfl trivial ⟨rfl, rfl⟩
theorem j_keepFormula_1_107_ok {d : Nat} (hd : 1 ≤ d) {v2 : Int32} {v3 : Int32} {σ : Sg} {r : Unit} {σ2 : Sg} (h : j_keepFormula_1_107 v2 v3 σ = some (r, σ2)) : Ev MT CT d 13 [.ref 1, .ref 107, .int v2, .int v3] σ (fun v s => v = none ∧ s = σ2) := by
  obtain ⟨d, rfl⟩ : ∃ e, d = e + 1 := ⟨d - 1, by omega⟩
  refine ⟨Nat.le_of_ble_eq_true rfl, ?_⟩
  show Rc none (Ev MT CT d) sg13 (0, [(0, .ref 1), (1, .ref 107), (2, .int v2), (3, .int v3)], [], σ) _
  unfold j_keepFormula_1_107 at h
  have hd : 0 ≤ d := by omega
  obtain ⟨g1, h⟩ := gd_some h
  refine Rc.blk (c := [_, _, _, _, _, _]) (s2 := (29, [(0, .ref 1), (1, .ref 107), (2, .int v2), (3, .int v3)], [], si (scp (si σ 1 6 (imin v2 72)) 107 14 0 0 (((si σ 1 6 (imin v2 72)).1 1 6).toNatClampNeg)) 1 7 v3)) 0 rfl rfl (conj_c (Nat.le_of_ble_eq_true rfl) (conj_c (rfl) (conj_c (rfl) (conj_c (rfl) (conj_c (cpB_ok (by decide) g1) (conj_c (rfl) (trivial))))))) ?_
  obtain ⟨rfl, rfl⟩ := some_pair h
  exact Rc.ret 1 rfl rfl rfl trivial ⟨rfl, rfl⟩
theorem j_fillAII_87_H5_ok {d : Nat} (hd : 0 ≤ d) {k5 : Int32 → Int32 → Int32 → Sg → Option (Unit × Sg)} (hk5 : ∀ (v1 : Int32) (v2 : Int32) (v3 : Int32) (σ : Sg) (r : Unit) (σ2 : Sg), k5 v1 v2 v3 σ = some (r, σ2) → Rc none (Ev MT CT d) sg230 (5, [(0, .ref 87), (1, .int v1), (2, .int v2), (3, .int v3)], [], σ) (fun v s => v = none ∧ s = σ2)) (v1 : Int32) (v2 : Int32) (v3 : Int32) (σ : Sg) (r : Unit) (σ2 : Sg) (h : j_fillAII_87_H5 k5 v1 v2 v3 σ = some (r, σ2)) : Rc none (Ev MT CT d) sg230 (5, [(0, .ref 87), (1, .int v1), (2, .int v2), (3, .int v3)], [], σ) (fun v s => v = none ∧ s = σ2) := by
  unfold j_fillAII_87_H5 at h
  refine Rc.blk (c := []) (s2 := (if v3 ≤ v2 then 20 else 10, [(0, .ref 87), (1, .int v1), (2, .int v2), (3, .int v3)], [], σ)) 1 rfl rfl (trivial) ?_
  by_cases c2 : v3 ≤ v2
  · rw [if_pos c2] at h
    refine Rc.ifp c2 ?_
    obtain ⟨rfl, rfl⟩ := some_pair h
    exact Rc.ret 3 rfl rfl rfl trivial ⟨rfl, rfl⟩
  · rw [if_neg c2] at h
    refine Rc.ifn c2 ?_
    obtain ⟨g1, h⟩ := gd_some h
    refine Rc.blk (c := [_]) (s2 := (5, [(2, .int (v2 + 1)), (0, .ref 87), (1, .int v1), (3, .int v3)], [], si σ 87 v2.toNatClampNeg v1)) 2 rfl rfl (conj_c (⟨rfl, inB_in g1⟩) (trivial)) ?_
    refine Rc.pick [1, 2, 0, 3] (lv2 := [(0, .ref 87), (1, .int v1), (2, .int (v2 + 1)), (3, .int v3)]) rfl ?_
    exact hk5 _ _ _ _ _ _ h
theorem j_fillAII_87_L5_ok {d : Nat} (hd : 0 ≤ d) : ∀ (n : Nat) (v1 : Int32) (v2 : Int32) (v3 : Int32) (σ : Sg) (r : Unit) (σ2 : Sg), j_fillAII_87_L5 n v1 v2 v3 σ = some (r, σ2) → Rc none (Ev MT CT d) sg230 (5, [(0, .ref 87), (1, .int v1), (2, .int v2), (3, .int v3)], [], σ) (fun v s => v = none ∧ s = σ2)
  | 0, _, _, _, _, _, _, h => by cases h
  | n + 1, v1, v2, v3, σ, r, σ2, h => j_fillAII_87_H5_ok hd (j_fillAII_87_L5_ok hd n) v1 v2 v3 σ r σ2 h
theorem j_fillAII_87_ok {d : Nat} (hd : 1 ≤ d) {v1 : Int32} {σ : Sg} {r : Unit} {σ2 : Sg} (h : j_fillAII_87 v1 σ = some (r, σ2)) : Ev MT CT d 230 [.ref 87, .int v1] σ (fun v s => v = none ∧ s = σ2) := by
  obtain ⟨d, rfl⟩ : ∃ e, d = e + 1 := ⟨d - 1, by omega⟩
  refine ⟨Nat.le_of_ble_eq_true rfl, ?_⟩
  show Rc none (Ev MT CT d) sg230 (0, [(0, .ref 87), (1, .int v1)], [], σ) _
  unfold j_fillAII_87 at h
  have hd : 0 ≤ d := by omega
  refine Rc.blk (c := [_]) (s2 := (5, [(3, .int 72), (2, .int 0), (0, .ref 87), (1, .int v1)], [], σ)) 0 rfl rfl (conj_c ((by decide)) (trivial)) ?_
  refine Rc.pick [2, 3, 1, 0] (lv2 := [(0, .ref 87), (1, .int v1), (2, .int 0), (3, .int 72)]) rfl ?_
  exact j_fillAII_87_L5_ok hd fu _ _ _ _ _ _ h
theorem j_failHere_85_b17_ok {d : Nat} (hd : 0 ≤ d) (σ : Sg) (r : Unit) (σ2 : Sg) (h : j_failHere_85_b17 σ = some (r, σ2)) : Rc none (Ev MT CT d) sg32 (17, [], [], σ) (fun v s => v = none ∧ s = σ2) := by
  unfold j_failHere_85_b17 at h
  obtain ⟨rfl, rfl⟩ := some_pair h
  exact Rc.ret 2 rfl rfl rfl trivial ⟨rfl, rfl⟩
theorem j_failHere_85_ok {d : Nat} (hd : 1 ≤ d) {σ : Sg} {r : Unit} {σ2 : Sg} (h : j_failHere_85 σ = some (r, σ2)) : Ev MT CT d 32 [.ref 85] σ (fun v s => v = none ∧ s = σ2) := by
  obtain ⟨d, rfl⟩ : ∃ e, d = e + 1 := ⟨d - 1, by omega⟩
  refine ⟨Nat.le_of_ble_eq_true rfl, ?_⟩
  show Rc none (Ev MT CT d) sg32 (0, [(0, .ref 85)], [], σ) _
  unfold j_failHere_85 at h
  have hd : 0 ≤ d := by omega
  refine Rc.blk (c := [_]) (s2 := (if ¬ (σ.1 85 4) = (-9) then 17 else 9, [(0, .ref 85)], [], σ)) 0 rfl rfl (conj_c (rfl) (trivial)) ?_
  by_cases c1 : (σ.1 85 4) = (-9)
  · rw [if_pos c1] at h
    refine Rc.ifn (fun q => q c1) ?_
    refine Rc.blk (c := [_, _]) (s2 := (17, [(0, .ref 85)], [], si σ 85 4 (σ.1 85 3))) 1 rfl rfl (conj_c (rfl) (conj_c (rfl) (trivial))) ?_
    refine Rc.pick [] (lv2 := []) rfl ?_
    exact j_failHere_85_b17_ok hd _ _ _ h
  · rw [if_neg c1] at h
    refine Rc.ifp c1 ?_
    refine Rc.pick [] (lv2 := []) rfl ?_
    exact j_failHere_85_b17_ok hd _ _ _ h
theorem j_next_85_b33_ok {d : Nat} (hd : 0 ≤ d) (s0 : Int32) (σ : Sg) (r : Int32) (σ2 : Sg) (h : j_next_85_b33 s0 σ = some (r, σ2)) : Rc none (Ev MT CT d) sg28 (33, [], [.int s0], σ) (fun v s => v = some (.int r) ∧ s = σ2) := by
  unfold j_next_85_b33 at h
  obtain ⟨rfl, rfl⟩ := some_pair h
  exact Rc.ret 4 rfl rfl rfl trivial ⟨rfl, rfl⟩
theorem j_next_85_b32_ok {d : Nat} (hd : 0 ≤ d) (σ : Sg) (r : Int32) (σ2 : Sg) (h : j_next_85_b32 σ = some (r, σ2)) : Rc none (Ev MT CT d) sg28 (32, [], [], σ) (fun v s => v = some (.int r) ∧ s = σ2) := by
  unfold j_next_85_b32 at h
  refine Rc.blk (c := []) (s2 := (33, [], [.int (-1)], σ)) 3 rfl rfl (trivial) ?_
  exact j_next_85_b33_ok hd _ _ _ _ h
theorem j_next_85_ok {d : Nat} (hd : 1 ≤ d) {σ : Sg} {r : Int32} {σ2 : Sg} (h : j_next_85 σ = some (r, σ2)) : Ev MT CT d 28 [.ref 85] σ (fun v s => v = some (.int r) ∧ s = σ2) := by
  obtain ⟨d, rfl⟩ : ∃ e, d = e + 1 := ⟨d - 1, by omega⟩
  refine ⟨Nat.le_of_ble_eq_true rfl, ?_⟩
  show Rc none (Ev MT CT d) sg28 (0, [(0, .ref 85)], [], σ) _
  unfold j_next_85 at h
  have hd : 0 ≤ d := by omega
  refine Rc.blk (c := [_]) (s2 := (if ¬ (σ.1 85 4) = (-9) then 32 else 9, [(0, .ref 85)], [], σ)) 0 rfl rfl (conj_c (rfl) (trivial)) ?_
  by_cases c3 : (σ.1 85 4) = (-9)
  · rw [if_pos c3] at h
    refine Rc.ifn (fun q => q c3) ?_
    refine Rc.blk (c := [_, _]) (s2 := (if (σ.1 85 2) ≤ (σ.1 85 3) then 32 else 20, [(0, .ref 85)], [], σ)) 1 rfl rfl (conj_c (rfl) (conj_c (rfl) (trivial))) ?_
    by_cases c2 : (σ.1 85 2) ≤ (σ.1 85 3)
    · rw [if_pos c2] at h
      refine Rc.ifp c2 ?_
      refine Rc.pick [] (lv2 := []) rfl ?_
      exact j_next_85_b32_ok hd _ _ _ h
    · rw [if_neg c2] at h
      refine Rc.ifn c2 ?_
      obtain ⟨g1, h⟩ := gd_some h
      refine Rc.blk (c := [_, _, _]) (s2 := (33, [(0, .ref 85)], [.int (σ.1 86 (σ.1 85 3).toNatClampNeg)], σ)) 2 rfl rfl (conj_c (rfl) (conj_c (rfl) (conj_c (⟨rfl, inB_in g1⟩) (trivial)))) ?_
      refine Rc.pick [] (lv2 := []) rfl ?_
      exact j_next_85_b33_ok hd _ _ _ _ h
  · rw [if_neg c3] at h
    refine Rc.ifp c3 ?_
    refine Rc.pick [] (lv2 := []) rfl ?_
    exact j_next_85_b32_ok hd _ _ _ h
theorem j_expect_85_b25_ok {d : Nat} (hd : 1 ≤ d) (σ : Sg) (r : Unit) (σ2 : Sg) (h : j_expect_85_b25 σ = some (r, σ2)) : Rc none (Ev MT CT d) sg31 (25, [], [], σ) (fun v s => v = none ∧ s = σ2) := by
  unfold j_expect_85_b25 at h
  obtain ⟨rfl, rfl⟩ := some_pair h
  exact Rc.ret 7 rfl rfl rfl trivial ⟨rfl, rfl⟩
theorem j_expect_85_ok {d : Nat} (hd : 2 ≤ d) {v1 : Int32} {σ : Sg} {r : Unit} {σ2 : Sg} (h : j_expect_85 v1 σ = some (r, σ2)) : Ev MT CT d 31 [.ref 85, .int v1] σ (fun v s => v = none ∧ s = σ2) := by
  obtain ⟨d, rfl⟩ : ∃ e, d = e + 1 := ⟨d - 1, by omega⟩
  refine ⟨Nat.le_of_ble_eq_true rfl, ?_⟩
  show Rc none (Ev MT CT d) sg31 (0, [(0, .ref 85), (1, .int v1)], [], σ) _
  unfold j_expect_85 at h
  have hd : 1 ≤ d := by omega
  refine Rc.blk (c := []) (s2 := (1, [(0, .ref 85), (1, .int v1)], [.ref 85], σ)) 0 rfl rfl (trivial) ?_
  obtain ⟨r1, σ1, hc, h⟩ := bd_some h
  refine Rc.call (Ev.mono d) (v := some (.int r1)) (as := [.ref 85]) (r := []) 1 rfl rfl rfl rfl ⟨rfl, Nat.le_of_ble_eq_true rfl⟩ (j_next_85_ok (by omega) hc) ?_
  show Rc _ _ _ (4, [(0, .ref 85), (1, .int v1)], [.int r1], σ1) _
  refine Rc.blk (c := []) (s2 := (if r1 = v1 then 15 else 8, [(0, .ref 85), (1, .int v1)], [], σ1)) 2 rfl rfl (trivial) ?_
  by_cases c3 : r1 = v1
  · rw [if_pos c3] at h
    refine Rc.ifp c3 ?_
    refine Rc.blk (c := [_, _, _]) (s2 := (25, [(0, .ref 85), (1, .int v1)], [], si σ1 85 3 ((σ1.1 85 3) + 1))) 6 rfl rfl (conj_c (rfl) (conj_c (rfl) (conj_c (rfl) (trivial)))) ?_
    refine Rc.pick [] (lv2 := []) rfl ?_
    exact j_expect_85_b25_ok hd _ _ _ h
  · rw [if_neg c3] at h
    refine Rc.ifn c3 ?_
    refine Rc.blk (c := []) (s2 := (9, [(0, .ref 85), (1, .int v1)], [.ref 85], σ1)) 3 rfl rfl (trivial) ?_
    obtain ⟨r2, σ2, hc, h⟩ := bd_some h
    refine Rc.call (Ev.mono d) (v := none) (as := [.ref 85]) (r := []) 4 rfl rfl rfl rfl ⟨rfl, Nat.le_of_ble_eq_true rfl⟩ (j_failHere_85_ok (by omega) hc) ?_
    show Rc _ _ _ (12, [(0, .ref 85), (1, .int v1)], [], σ2) _
    refine Rc.blk (c := []) (s2 := (25, [(0, .ref 85), (1, .int v1)], [], σ2)) 5 rfl rfl (trivial) ?_
    refine Rc.pick [] (lv2 := []) rfl ?_
    exact j_expect_85_b25_ok hd _ _ _ h
theorem j_markWrong_85_b17_ok {d : Nat} (hd : 0 ≤ d) (σ : Sg) (r : Unit) (σ2 : Sg) (h : j_markWrong_85_b17 σ = some (r, σ2)) : Rc none (Ev MT CT d) sg33 (17, [], [], σ) (fun v s => v = none ∧ s = σ2) := by
  unfold j_markWrong_85_b17 at h
  obtain ⟨rfl, rfl⟩ := some_pair h
  exact Rc.ret 3 rfl rfl rfl trivial ⟨rfl, rfl⟩
theorem j_markWrong_85_ok {d : Nat} (hd : 1 ≤ d) {v1 : Int32} {σ : Sg} {r : Unit} {σ2 : Sg} (h : j_markWrong_85 v1 σ = some (r, σ2)) : Ev MT CT d 33 [.ref 85, .int v1] σ (fun v s => v = none ∧ s = σ2) := by
  obtain ⟨d, rfl⟩ : ∃ e, d = e + 1 := ⟨d - 1, by omega⟩
  refine ⟨Nat.le_of_ble_eq_true rfl, ?_⟩
  show Rc none (Ev MT CT d) sg33 (0, [(0, .ref 85), (1, .int v1)], [], σ) _
  unfold j_markWrong_85 at h
  have hd : 0 ≤ d := by omega
  refine Rc.blk (c := []) (s2 := (if v1 < 0 then 17 else 4, [(0, .ref 85), (1, .int v1)], [], σ)) 0 rfl rfl (trivial) ?_
  by_cases c3 : v1 < 0
  · rw [if_pos c3] at h
    refine Rc.ifp c3 ?_
    refine Rc.pick [] (lv2 := []) rfl ?_
    exact j_markWrong_85_b17_ok hd _ _ _ h
  · rw [if_neg c3] at h
    refine Rc.ifn c3 ?_
    refine Rc.blk (c := []) (s2 := (if 72 ≤ v1 then 17 else 10, [(0, .ref 85), (1, .int v1)], [], σ)) 1 rfl rfl (trivial) ?_
    by_cases c2 : 72 ≤ v1
    · rw [if_pos c2] at h
      refine Rc.ifp c2 ?_
      refine Rc.pick [] (lv2 := []) rfl ?_
      exact j_markWrong_85_b17_ok hd _ _ _ h
    · rw [if_neg c2] at h
      refine Rc.ifn c2 ?_
      obtain ⟨g1, h⟩ := gd_some h
      refine Rc.blk (c := [_, _]) (s2 := (17, [(0, .ref 85), (1, .int v1)], [], si σ 87 v1.toNatClampNeg 1)) 2 rfl rfl (conj_c (rfl) (conj_c (⟨rfl, inB_in g1⟩) (trivial))) ?_
      refine Rc.pick [] (lv2 := []) rfl ?_
      exact j_markWrong_85_b17_ok hd _ _ _ h
theorem j_isNext_85_b20_ok {d : Nat} (hd : 1 ≤ d) (s0 : Int32) (σ : Sg) (r : Int32) (σ2 : Sg) (h : j_isNext_85_b20 s0 σ = some (r, σ2)) : Rc none (Ev MT CT d) sg29 (20, [], [.int s0], σ) (fun v s => v = some (.int r) ∧ s = σ2) := by
  unfold j_isNext_85_b20 at h
  obtain ⟨g, h⟩ := gd_some h
  obtain ⟨rfl, rfl⟩ := some_pair h
  exact Rc.ret 6 rfl rfl rfl (nbB_ok g) ⟨rfl, rfl⟩
theorem j_isNext_85_b15_ok {d : Nat} (hd : 1 ≤ d) (σ : Sg) (r : Int32) (σ2 : Sg) (h : j_isNext_85_b15 σ = some (r, σ2)) : Rc none (Ev MT CT d) sg29 (15, [], [], σ) (fun v s => v = some (.int r) ∧ s = σ2) := by
  unfold j_isNext_85_b15 at h
  refine Rc.blk (c := []) (s2 := (20, [], [.int 1], σ)) 4 rfl rfl (trivial) ?_
  exact j_isNext_85_b20_ok hd _ _ _ _ h
theorem j_isNext_85_ok {d : Nat} (hd : 2 ≤ d) {v1 : Int32} {v2 : Int32} {σ : Sg} {r : Int32} {σ2 : Sg} (h : j_isNext_85 v1 v2 σ = some (r, σ2)) : Ev MT CT d 29 [.ref 85, .int v1, .int v2] σ (fun v s => v = some (.int r) ∧ s = σ2) := by
  obtain ⟨d, rfl⟩ : ∃ e, d = e + 1 := ⟨d - 1, by omega⟩
  refine ⟨Nat.le_of_ble_eq_true rfl, ?_⟩
  show Rc none (Ev MT CT d) sg29 (0, [(0, .ref 85), (1, .int v1), (2, .int v2)], [], σ) _
  unfold j_isNext_85 at h
  have hd : 1 ≤ d := by omega
  refine Rc.blk (c := []) (s2 := (1, [(0, .ref 85), (1, .int v1), (2, .int v2)], [.ref 85], σ)) 0 rfl rfl (trivial) ?_
  obtain ⟨r1, σ1, hc, h⟩ := bd_some h
  refine Rc.call (Ev.mono d) (v := some (.int r1)) (as := [.ref 85]) (r := []) 1 rfl rfl rfl rfl ⟨rfl, Nat.le_of_ble_eq_true rfl⟩ (j_next_85_ok (by omega) hc) ?_
  show Rc _ _ _ (4, [(0, .ref 85), (1, .int v1), (2, .int v2)], [.int r1], σ1) _
  refine Rc.blk (c := []) (s2 := (if r1 = v1 then 15 else 10, [(3, .int r1), (0, .ref 85), (1, .int v1), (2, .int v2)], [], σ1)) 2 rfl rfl (trivial) ?_
  by_cases c3 : r1 = v1
  · rw [if_pos c3] at h
    refine Rc.ifp c3 ?_
    refine Rc.pick [] (lv2 := []) rfl ?_
    exact j_isNext_85_b15_ok hd _ _ _ h
  · rw [if_neg c3] at h
    refine Rc.ifn c3 ?_
    refine Rc.blk (c := []) (s2 := (if ¬ r1 = v2 then 19 else 15, [(3, .int r1), (0, .ref 85), (1, .int v1), (2, .int v2)], [], σ1)) 3 rfl rfl (trivial) ?_
    by_cases c2 : r1 = v2
    · rw [if_pos c2] at h
      refine Rc.ifn (fun q => q c2) ?_
      refine Rc.pick [] (lv2 := []) rfl ?_
      exact j_isNext_85_b15_ok hd _ _ _ h
    · rw [if_neg c2] at h
      refine Rc.ifp c2 ?_
      refine Rc.blk (c := []) (s2 := (20, [(3, .int r1), (0, .ref 85), (1, .int v1), (2, .int v2)], [.int 0], σ1)) 5 rfl rfl (trivial) ?_
      refine Rc.pick [] (lv2 := []) rfl ?_
      exact j_isNext_85_b20_ok hd _ _ _ _ h
theorem j_isDigit_s_b17_ok {d : Nat} (hd : 0 ≤ d) (s0 : Int32) (σ : Sg) (r : Int32) (σ2 : Sg) (h : j_isDigit_s_b17 s0 σ = some (r, σ2)) : Rc none (Ev MT CT d) sg30 (17, [], [.int s0], σ) (fun v s => v = some (.int r) ∧ s = σ2) := by
  unfold j_isDigit_s_b17 at h
  obtain ⟨g, h⟩ := gd_some h
  obtain ⟨rfl, rfl⟩ := some_pair h
  exact Rc.ret 4 rfl rfl rfl (nbB_ok g) ⟨rfl, rfl⟩
theorem j_isDigit_s_b16_ok {d : Nat} (hd : 0 ≤ d) (σ : Sg) (r : Int32) (σ2 : Sg) (h : j_isDigit_s_b16 σ = some (r, σ2)) : Rc none (Ev MT CT d) sg30 (16, [], [], σ) (fun v s => v = some (.int r) ∧ s = σ2) := by
  unfold j_isDigit_s_b16 at h
  refine Rc.blk (c := []) (s2 := (17, [], [.int 0], σ)) 3 rfl rfl (trivial) ?_
  exact j_isDigit_s_b17_ok hd _ _ _ _ h
theorem j_isDigit_s_ok {d : Nat} (hd : 1 ≤ d) {v0 : Int32} {σ : Sg} {r : Int32} {σ2 : Sg} (h : j_isDigit_s v0 σ = some (r, σ2)) : Ev MT CT d 30 [.int v0] σ (fun v s => v = some (.int r) ∧ s = σ2) := by
  obtain ⟨d, rfl⟩ : ∃ e, d = e + 1 := ⟨d - 1, by omega⟩
  refine ⟨Nat.le_of_ble_eq_true rfl, ?_⟩
  show Rc none (Ev MT CT d) sg30 (0, [(0, .int v0)], [], σ) _
  unfold j_isDigit_s at h
  have hd : 0 ≤ d := by omega
  refine Rc.blk (c := []) (s2 := (if v0 < 48 then 16 else 6, [(0, .int v0)], [], σ)) 0 rfl rfl (trivial) ?_
  by_cases c2 : v0 < 48
  · rw [if_pos c2] at h
    refine Rc.ifp c2 ?_
    refine Rc.pick [] (lv2 := []) rfl ?_
    exact j_isDigit_s_b16_ok hd _ _ _ h
  · rw [if_neg c2] at h
    refine Rc.ifn c2 ?_
    refine Rc.blk (c := []) (s2 := (if 57 < v0 then 16 else 12, [(0, .int v0)], [], σ)) 1 rfl rfl (trivial) ?_
    by_cases c1 : 57 < v0
    · rw [if_pos c1] at h
      refine Rc.ifp c1 ?_
      refine Rc.pick [] (lv2 := []) rfl ?_
      exact j_isDigit_s_b16_ok hd _ _ _ h
    · rw [if_neg c1] at h
      refine Rc.ifn c1 ?_
      refine Rc.blk (c := []) (s2 := (17, [(0, .int v0)], [.int 1], σ)) 2 rfl rfl (trivial) ?_
      refine Rc.pick [] (lv2 := []) rfl ?_
      exact j_isDigit_s_b17_ok hd _ _ _ _ h
theorem j_readNumber_85_b33_ok {d : Nat} (hd : 1 ≤ d) (σ : Sg) (r : Unit) (σ2 : Sg) (h : j_readNumber_85_b33 σ = some (r, σ2)) : Rc none (Ev MT CT d) sg26 (33, [], [], σ) (fun v s => v = none ∧ s = σ2) := by
  unfold j_readNumber_85_b33 at h
  obtain ⟨rfl, rfl⟩ := some_pair h
  exact Rc.ret 7 rfl rfl rfl trivial ⟨rfl, rfl⟩
theorem j_readNumber_85_H2_ok {d : Nat} (hd : 1 ≤ d) {k2 : Int32 → Sg → Option (Unit × Sg)} (hk2 : ∀ (v1 : Int32) (σ : Sg) (r : Unit) (σ2 : Sg), k2 v1 σ = some (r, σ2) → Rc none (Ev MT CT d) sg26 (2, [(0, .ref 85), (1, .int v1)], [], σ) (fun v s => v = none ∧ s = σ2)) (v1 : Int32) (σ : Sg) (r : Unit) (σ2 : Sg) (h : j_readNumber_85_H2 k2 v1 σ = some (r, σ2)) : Rc none (Ev MT CT d) sg26 (2, [(0, .ref 85), (1, .int v1)], [], σ) (fun v s => v = none ∧ s = σ2) := by
  unfold j_readNumber_85_H2 at h
  refine Rc.blk (c := []) (s2 := (if 3 ≤ v1 then 33 else 7, [(0, .ref 85), (1, .int v1)], [], σ)) 1 rfl rfl (trivial) ?_
  by_cases c4 : 3 ≤ v1
  · rw [if_pos c4] at h
    refine Rc.ifp c4 ?_
    refine Rc.pick [] (lv2 := []) rfl ?_
    exact j_readNumber_85_b33_ok hd _ _ _ h
  · rw [if_neg c4] at h
    refine Rc.ifn c4 ?_
    refine Rc.blk (c := []) (s2 := (8, [(0, .ref 85), (1, .int v1)], [.ref 85], σ)) 2 rfl rfl (trivial) ?_
    obtain ⟨r1, σ1, hc, h⟩ := bd_some h
    refine Rc.call (Ev.mono d) (v := some (.int r1)) (as := [.ref 85]) (r := []) 3 rfl rfl rfl rfl ⟨rfl, Nat.le_of_ble_eq_true rfl⟩ (j_next_85_ok (by omega) hc) ?_
    show Rc _ _ _ (11, [(0, .ref 85), (1, .int v1)], [.int r1], σ1) _
    obtain ⟨r2, σ2, hc, h⟩ := bd_some h
    refine Rc.call (Ev.mono d) (v := some (.int r2)) (as := [.int r1]) (r := []) 4 rfl rfl rfl rfl (Nat.le_of_ble_eq_true rfl) (j_isDigit_s_ok (by omega) hc) ?_
    show Rc _ _ _ (14, [(0, .ref 85), (1, .int v1)], [.int r2], σ2) _
    refine Rc.blk (c := []) (s2 := (if r2 = 0 then 33 else 17, [(0, .ref 85), (1, .int v1)], [], σ2)) 5 rfl rfl (trivial) ?_
    by_cases c3 : r2 = 0
    · rw [if_pos c3] at h
      refine Rc.ifp c3 ?_
      refine Rc.pick [] (lv2 := []) rfl ?_
      exact j_readNumber_85_b33_ok hd _ _ _ h
    · rw [if_neg c3] at h
      refine Rc.ifn c3 ?_
      refine Rc.blk (c := [_, _, _]) (s2 := (2, [(1, .int (v1 + 1)), (0, .ref 85)], [], si σ2 85 3 ((σ2.1 85 3) + 1))) 6 rfl rfl (conj_c (rfl) (conj_c (rfl) (conj_c (rfl) (trivial)))) ?_
      refine Rc.pick [1, 0] (lv2 := [(0, .ref 85), (1, .int (v1 + 1))]) rfl ?_
      exact hk2 _ _ _ _ h
theorem j_readNumber_85_L2_ok {d : Nat} (hd : 1 ≤ d) : ∀ (n : Nat) (v1 : Int32) (σ : Sg) (r : Unit) (σ2 : Sg), j_readNumber_85_L2 n v1 σ = some (r, σ2) → Rc none (Ev MT CT d) sg26 (2, [(0, .ref 85), (1, .int v1)], [], σ) (fun v s => v = none ∧ s = σ2)
  | 0, _, _, _, _, h => by cases h
  | n + 1, v1, σ, r, σ2, h => j_readNumber_85_H2_ok hd (j_readNumber_85_L2_ok hd n) v1 σ r σ2 h
theorem j_readNumber_85_ok {d : Nat} (hd : 2 ≤ d) {σ : Sg} {r : Unit} {σ2 : Sg} (h : j_readNumber_85 σ = some (r, σ2)) : Ev MT CT d 26 [.ref 85] σ (fun v s => v = none ∧ s = σ2) := by
  obtain ⟨d, rfl⟩ : ∃ e, d = e + 1 := ⟨d - 1, by omega⟩
  refine ⟨Nat.le_of_ble_eq_true rfl, ?_⟩
  show Rc none (Ev MT CT d) sg26 (0, [(0, .ref 85)], [], σ) _
  unfold j_readNumber_85 at h
  have hd : 1 ≤ d := by omega
  refine Rc.blk (c := []) (s2 := (2, [(1, .int 0), (0, .ref 85)], [], σ)) 0 rfl rfl (trivial) ?_
  refine Rc.pick [1, 0] (lv2 := [(0, .ref 85), (1, .int 0)]) rfl ?_
  exact j_readNumber_85_L2_ok hd fu _ _ _ _ h
theorem j_readPower_85_b44_ok {d : Nat} (hd : 1 ≤ d) (v1 : Int32) (σ : Sg) (r : Int32) (σ2 : Sg) (h : j_readPower_85_b44 v1 σ = some (r, σ2)) : Rc none (Ev MT CT d) sg27 (44, [(0, .ref 85), (1, .int v1)], [], σ) (fun v s => v = some (.int r) ∧ s = σ2) := by
  unfold j_readPower_85_b44 at h
  refine Rc.blk (c := []) (s2 := (45, [(0, .ref 85), (1, .int v1)], [.ref 85], σ)) 9 rfl rfl (trivial) ?_
  obtain ⟨r1, σ1, hc, h⟩ := bd_some h
  refine Rc.call (Ev.mono d) (v := some (.int r1)) (as := [.ref 85]) (r := []) 10 rfl rfl rfl rfl ⟨rfl, Nat.le_of_ble_eq_true rfl⟩ (j_next_85_ok (by omega) hc) ?_
  show Rc _ _ _ (48, [(0, .ref 85), (1, .int v1)], [.int r1], σ1) _
  refine Rc.blk (c := []) (s2 := (50, [(2, .int r1), (0, .ref 85), (1, .int v1)], [.int r1], σ1)) 11 rfl rfl (trivial) ?_
  obtain ⟨r2, σ2, hc, h⟩ := bd_some h
  refine Rc.call (Ev.mono d) (v := some (.int r2)) (as := [.int r1]) (r := []) 12 rfl rfl rfl rfl (Nat.le_of_ble_eq_true rfl) (j_isDigit_s_ok (by omega) hc) ?_
  show Rc _ _ _ (53, [(2, .int r1), (0, .ref 85), (1, .int v1)], [.int r2], σ2) _
  refine Rc.blk (c := []) (s2 := (if ¬ r2 = 0 then 62 else 56, [(2, .int r1), (0, .ref 85), (1, .int v1)], [], σ2)) 13 rfl rfl (trivial) ?_
  by_cases c4 : r2 = 0
  · rw [if_pos c4] at h
    refine Rc.ifn (fun q => q c4) ?_
    refine Rc.blk (c := []) (s2 := (57, [(2, .int r1), (0, .ref 85), (1, .int v1)], [.ref 85], σ2)) 14 rfl rfl (trivial) ?_
    obtain ⟨r3, σ3, hc, h⟩ := bd_some h
    refine Rc.call (Ev.mono d) (v := none) (as := [.ref 85]) (r := []) 15 rfl rfl rfl rfl ⟨rfl, Nat.le_of_ble_eq_true rfl⟩ (j_failHere_85_ok (by omega) hc) ?_
    show Rc _ _ _ (60, [(2, .int r1), (0, .ref 85), (1, .int v1)], [], σ3) _
    refine Rc.blk (c := []) (s2 := (61, [(2, .int r1), (0, .ref 85), (1, .int v1)], [.int 1], σ3)) 16 rfl rfl (trivial) ?_
    obtain ⟨rfl, rfl⟩ := some_pair h
    exact Rc.ret 17 rfl rfl rfl trivial ⟨rfl, rfl⟩
  · rw [if_neg c4] at h
    refine Rc.ifp c4 ?_
    refine Rc.blk (c := [_, _, _]) (s2 := (78, [(2, .int r1), (0, .ref 85), (1, .int v1)], [.int (v1 * (r1 - 48))], si σ2 85 3 ((σ2.1 85 3) + 1))) 18 rfl rfl (conj_c (rfl) (conj_c (rfl) (conj_c (rfl) (trivial)))) ?_
    obtain ⟨rfl, rfl⟩ := some_pair h
    exact Rc.ret 19 rfl rfl rfl trivial ⟨rfl, rfl⟩
theorem j_readPower_85_ok {d : Nat} (hd : 2 ≤ d) {σ : Sg} {r : Int32} {σ2 : Sg} (h : j_readPower_85 σ = some (r, σ2)) : Ev MT CT d 27 [.ref 85] σ (fun v s => v = some (.int r) ∧ s = σ2) := by
  obtain ⟨d, rfl⟩ : ∃ e, d = e + 1 := ⟨d - 1, by omega⟩
  refine ⟨Nat.le_of_ble_eq_true rfl, ?_⟩
  show Rc none (Ev MT CT d) sg27 (0, [(0, .ref 85)], [], σ) _
  unfold j_readPower_85 at h
  have hd : 1 ≤ d := by omega
  refine Rc.blk (c := []) (s2 := (1, [(0, .ref 85)], [.ref 85], σ)) 0 rfl rfl (trivial) ?_
  obtain ⟨r1, σ1, hc, h⟩ := bd_some h
  refine Rc.call (Ev.mono d) (v := some (.int r1)) (as := [.ref 85]) (r := []) 1 rfl rfl rfl rfl ⟨rfl, Nat.le_of_ble_eq_true rfl⟩ (j_next_85_ok (by omega) hc) ?_
  show Rc _ _ _ (4, [(0, .ref 85)], [.int r1], σ1) _
  refine Rc.blk (c := []) (s2 := (if r1 = 94 then 11 else 9, [(0, .ref 85)], [], σ1)) 2 rfl rfl (trivial) ?_
  by_cases c4 : r1 = 94
  · rw [if_pos c4] at h
    refine Rc.ifp c4 ?_
    refine Rc.blk (c := [_, _, _]) (s2 := (24, [(1, .int 1), (0, .ref 85)], [.ref 85], si σ1 85 3 ((σ1.1 85 3) + 1))) 5 rfl rfl (conj_c (rfl) (conj_c (rfl) (conj_c (rfl) (trivial)))) ?_
    obtain ⟨r2, σ2, hc, h⟩ := bd_some h
    refine Rc.call (Ev.mono d) (v := some (.int r2)) (as := [.ref 85]) (r := []) 6 rfl rfl rfl rfl ⟨rfl, Nat.le_of_ble_eq_true rfl⟩ (j_next_85_ok (by omega) hc) ?_
    show Rc _ _ _ (27, [(1, .int 1), (0, .ref 85)], [.int r2], σ2) _
    refine Rc.blk (c := []) (s2 := (if ¬ r2 = 45 then 44 else 32, [(1, .int 1), (0, .ref 85)], [], σ2)) 7 rfl rfl (trivial) ?_
    by_cases c3 : r2 = 45
    · rw [if_pos c3] at h
      refine Rc.ifn (fun q => q c3) ?_
      refine Rc.blk (c := [_, _, _]) (s2 := (44, [(1, .int (-1)), (0, .ref 85)], [], si σ2 85 3 ((σ2.1 85 3) + 1))) 8 rfl rfl (conj_c (rfl) (conj_c (rfl) (conj_c (rfl) (trivial)))) ?_
      refine Rc.pick [1, 0] (lv2 := [(0, .ref 85), (1, .int (-1))]) rfl ?_
      exact j_readPower_85_b44_ok hd _ _ _ _ h
    · rw [if_neg c3] at h
      refine Rc.ifp c3 ?_
      refine Rc.pick [1, 0] (lv2 := [(0, .ref 85), (1, .int 1)]) rfl ?_
      exact j_readPower_85_b44_ok hd _ _ _ _ h
  · rw [if_neg c4] at h
    refine Rc.ifn c4 ?_
    refine Rc.blk (c := []) (s2 := (10, [(0, .ref 85)], [.int 1], σ1)) 3 rfl rfl (trivial) ?_
    obtain ⟨rfl, rfl⟩ := some_pair h
    exact Rc.ret 4 rfl rfl rfl trivial ⟨rfl, rfl⟩
theorem j_same_x_x_H2_ok {d : Nat} (hd : 0 ≤ d) {k2 : Nat → Nat → Int32 → Sg → Option (Int32 × Sg)} (hk2 : ∀ (v0 : Nat) (v1 : Nat) (v2 : Int32) (σ : Sg) (r : Int32) (σ2 : Sg), k2 v0 v1 v2 σ = some (r, σ2) → Rc none (Ev MT CT d) sg34 (2, [(0, .ref v0), (1, .ref v1), (2, .int v2)], [], σ) (fun v s => v = some (.int r) ∧ s = σ2)) (v0 : Nat) (v1 : Nat) (v2 : Int32) (σ : Sg) (r : Int32) (σ2 : Sg) (h : j_same_x_x_H2 k2 v0 v1 v2 σ = some (r, σ2)) : Rc none (Ev MT CT d) sg34 (2, [(0, .ref v0), (1, .ref v1), (2, .int v2)], [], σ) (fun v s => v = some (.int r) ∧ s = σ2) := by
  unfold j_same_x_x_H2 at h
  refine Rc.blk (c := []) (s2 := (if 5 ≤ v2 then 24 else 7, [(0, .ref v0), (1, .ref v1), (2, .int v2)], [], σ)) 1 rfl rfl (trivial) ?_
  by_cases c4 : 5 ≤ v2
  · rw [if_pos c4] at h
    refine Rc.ifp c4 ?_
    refine Rc.blk (c := []) (s2 := (25, [(0, .ref v0), (1, .ref v1), (2, .int v2)], [.int 1], σ)) 6 rfl rfl (trivial) ?_
    obtain ⟨rfl, rfl⟩ := some_pair h
    exact Rc.ret 7 rfl rfl rfl (Or.inr rfl) ⟨rfl, rfl⟩
  · rw [if_neg c4] at h
    refine Rc.ifn c4 ?_
    obtain ⟨g1, h⟩ := gd_some h
    obtain ⟨g2, h⟩ := gd_some h
    refine Rc.blk (c := [_, _]) (s2 := (if (σ.1 v0 v2.toNatClampNeg) = (σ.1 v1 v2.toNatClampNeg) then 18 else 16, [(0, .ref v0), (1, .ref v1), (2, .int v2)], [], σ)) 2 rfl rfl (conj_c (arB_in g1) (conj_c (arB_in g2) (trivial))) ?_
    by_cases c3 : (σ.1 v0 v2.toNatClampNeg) = (σ.1 v1 v2.toNatClampNeg)
    · rw [if_pos c3] at h
      refine Rc.ifp c3 ?_
      refine Rc.blk (c := []) (s2 := (2, [(2, .int (v2 + 1)), (0, .ref v0), (1, .ref v1)], [], σ)) 5 rfl rfl (trivial) ?_
      refine Rc.pick [1, 2, 0] (lv2 := [(0, .ref v0), (1, .ref v1), (2, .int (v2 + 1))]) rfl ?_
      exact hk2 _ _ _ _ _ _ h
    · rw [if_neg c3] at h
      refine Rc.ifn c3 ?_
      refine Rc.blk (c := []) (s2 := (17, [(0, .ref v0), (1, .ref v1), (2, .int v2)], [.int 0], σ)) 3 rfl rfl (trivial) ?_
      obtain ⟨rfl, rfl⟩ := some_pair h
      exact Rc.ret 4 rfl rfl rfl (Or.inl rfl) ⟨rfl, rfl⟩
theorem j_same_x_x_L2_ok {d : Nat} (hd : 0 ≤ d) : ∀ (n : Nat) (v0 : Nat) (v1 : Nat) (v2 : Int32) (σ : Sg) (r : Int32) (σ2 : Sg), j_same_x_x_L2 n v0 v1 v2 σ = some (r, σ2) → Rc none (Ev MT CT d) sg34 (2, [(0, .ref v0), (1, .ref v1), (2, .int v2)], [], σ) (fun v s => v = some (.int r) ∧ s = σ2)
  | 0, _, _, _, _, _, _, h => by cases h
  | n + 1, v0, v1, v2, σ, r, σ2, h => j_same_x_x_H2_ok hd (j_same_x_x_L2_ok hd n) v0 v1 v2 σ r σ2 h
theorem j_same_x_x_ok {d : Nat} (hd : 1 ≤ d) {v0 : Nat} {v1 : Nat} {σ : Sg} {r : Int32} {σ2 : Sg} (h : j_same_x_x v0 v1 σ = some (r, σ2)) : Ev MT CT d 34 [.ref v0, .ref v1] σ (fun v s => v = some (.int r) ∧ s = σ2) := by
  obtain ⟨d, rfl⟩ : ∃ e, d = e + 1 := ⟨d - 1, by omega⟩
  refine ⟨Nat.le_of_ble_eq_true rfl, ?_⟩
  show Rc none (Ev MT CT d) sg34 (0, [(0, .ref v0), (1, .ref v1)], [], σ) _
  unfold j_same_x_x at h
  have hd : 0 ≤ d := by omega
  refine Rc.blk (c := []) (s2 := (2, [(2, .int 0), (0, .ref v0), (1, .ref v1)], [], σ)) 0 rfl rfl (trivial) ?_
  refine Rc.pick [1, 2, 0] (lv2 := [(0, .ref v0), (1, .ref v1), (2, .int 0)]) rfl ?_
  exact j_same_x_x_L2_ok hd fu _ _ _ _ _ _ h
theorem j_readInner_85_b74_ok (d0 : Nat) (rs : Int32 → Sg → Option (Unit × Sg)) (hrs : ∀ (v1 : Int32) (σ : Sg) (r : Unit) (σ2 : Sg), rs v1 σ = some (r, σ2) → Ev MT CT d0 21 [.ref 85, .int v1] σ (fun v s => v = none ∧ s = σ2)) {d : Nat} (hd : 2 ≤ d) (hd0 : d0 + 0 ≤ d) (σ : Sg) (r : Nat) (σ2 : Sg) (h : j_readInner_85_b74 rs σ = some (r, σ2)) : Rc none (Ev MT CT d) sg25 (74, [(0, .ref 85)], [], σ) (fun v s => v = some (.ref r) ∧ s = σ2) := by
  unfold j_readInner_85_b74 at h
  refine Rc.blk (c := [_]) (s2 := (78, [(0, .ref 85)], [.ref 104], σ)) 15 rfl rfl (conj_c (rfl) (trivial)) ?_
  obtain ⟨rfl, rfl⟩ := some_pair h
  exact Rc.ret 16 rfl rfl rfl trivial ⟨rfl, rfl⟩
theorem j_readInner_85_b27_ok (d0 : Nat) (rs : Int32 → Sg → Option (Unit × Sg)) (hrs : ∀ (v1 : Int32) (σ : Sg) (r : Unit) (σ2 : Sg), rs v1 σ = some (r, σ2) → Ev MT CT d0 21 [.ref 85, .int v1] σ (fun v s => v = none ∧ s = σ2)) {d : Nat} (hd : 2 ≤ d) (hd0 : d0 + 0 ≤ d) (v1 : Int32) (v2 : Int32) (v3 : Int32) (σ : Sg) (r : Nat) (σ2 : Sg) (h : j_readInner_85_b27 rs v1 v2 v3 σ = some (r, σ2)) : Rc none (Ev MT CT d) sg25 (27, [(0, .ref 85), (1, .int v1), (2, .int v2), (3, .int v3)], [], σ) (fun v s => v = some (.ref r) ∧ s = σ2) := by
  unfold j_readInner_85_b27 at h
  refine Rc.blk (c := []) (s2 := (31, [(0, .ref 85), (1, .int v1), (2, .int v2), (3, .int v3)], [.int (v1 + 1), .ref 85], σ)) 3 rfl rfl (trivial) ?_
  obtain ⟨r1, σ1, hc, h⟩ := bd_some h
  refine Rc.call (Ev.mono d) (v := none) (as := [.ref 85, .int (v1 + 1)]) (r := []) 4 rfl rfl rfl rfl ⟨rfl, Nat.le_of_ble_eq_true rfl⟩ (Ev.le (by omega) (hrs _ _ _ _ hc)) ?_
  show Rc _ _ _ (34, [(0, .ref 85), (1, .int v1), (2, .int v2), (3, .int v3)], [], σ1) _
  refine Rc.blk (c := []) (s2 := (37, [(0, .ref 85), (1, .int v1), (2, .int v2), (3, .int v3)], [.int 41, .ref 85], σ1)) 5 rfl rfl (trivial) ?_
  obtain ⟨r2, σ2, hc, h⟩ := bd_some h
  refine Rc.call (Ev.mono d) (v := none) (as := [.ref 85, .int 41]) (r := []) 6 rfl rfl rfl rfl ⟨rfl, Nat.le_of_ble_eq_true rfl⟩ (j_expect_85_ok (by omega) hc) ?_
  show Rc _ _ _ (40, [(0, .ref 85), (1, .int v1), (2, .int v2), (3, .int v3)], [], σ2) _
  refine Rc.blk (c := []) (s2 := (if ¬ v2 = 40 then 55 else 46, [(0, .ref 85), (1, .int v1), (2, .int v2), (3, .int v3)], [], σ2)) 7 rfl rfl (trivial) ?_
  by_cases c8 : v2 = 40
  · rw [if_pos c8] at h
    refine Rc.ifn (fun q => q c8) ?_
    obtain ⟨g7, h⟩ := gd_some h
    refine Rc.blk (c := [_, _]) (s2 := (54, [(0, .ref 85), (1, .int v1), (2, .int v2), (3, .int v3)], [.ref (88 + 1 + (v1 + 1).toNatClampNeg)], σ2)) 8 rfl rfl (conj_c (rfl) (conj_c (⟨Or.inl rfl, inB_in g7⟩) (trivial))) ?_
    obtain ⟨rfl, rfl⟩ := some_pair h
    exact Rc.ret 9 rfl rfl rfl trivial ⟨rfl, rfl⟩
  · rw [if_neg c8] at h
    refine Rc.ifp c8 ?_
    obtain ⟨g3, h⟩ := gd_some h
    refine Rc.blk (c := [_, _]) (s2 := (63, [(0, .ref 85), (1, .int v1), (2, .int v2), (3, .int v3)], [.ref (88 + 1 + (v1 + 1).toNatClampNeg)], σ2)) 10 rfl rfl (conj_c (rfl) (conj_c (⟨Or.inl rfl, inB_in g3⟩) (trivial))) ?_
    obtain ⟨r4, σ4, hc, h⟩ := bd_some h
    refine Rc.call (Ev.mono d) (v := some (.int r4)) (as := [.ref (88 + 1 + (v1 + 1).toNatClampNeg)]) (r := []) 11 rfl rfl rfl rfl (Nat.le_of_ble_eq_true rfl) (j_isPure_x_ok (by omega) hc) ?_
    show Rc _ _ _ (66, [(0, .ref 85), (1, .int v1), (2, .int v2), (3, .int v3)], [.int r4], σ4) _
    refine Rc.blk (c := []) (s2 := (if ¬ r4 = 0 then 74 else 69, [(0, .ref 85), (1, .int v1), (2, .int v2), (3, .int v3)], [], σ4)) 12 rfl rfl (trivial) ?_
    by_cases c6 : r4 = 0
    · rw [if_pos c6] at h
      refine Rc.ifn (fun q => q c6) ?_
      refine Rc.blk (c := []) (s2 := (71, [(0, .ref 85), (1, .int v1), (2, .int v2), (3, .int v3)], [.int v3, .ref 85], σ4)) 13 rfl rfl (trivial) ?_
      obtain ⟨r5, σ5, hc, h⟩ := bd_some h
      refine Rc.call (Ev.mono d) (v := none) (as := [.ref 85, .int v3]) (r := []) 14 rfl rfl rfl rfl ⟨rfl, Nat.le_of_ble_eq_true rfl⟩ (j_markWrong_85_ok (by omega) hc) ?_
      show Rc _ _ _ (74, [(0, .ref 85), (1, .int v1), (2, .int v2), (3, .int v3)], [], σ5) _
      refine Rc.pick [0] (lv2 := [(0, .ref 85)]) rfl ?_
      exact j_readInner_85_b74_ok d0 rs hrs hd hd0 _ _ _ h
    · rw [if_neg c6] at h
      refine Rc.ifp c6 ?_
      refine Rc.pick [0] (lv2 := [(0, .ref 85)]) rfl ?_
      exact j_readInner_85_b74_ok d0 rs hrs hd hd0 _ _ _ h
theorem j_readInner_85_ok (d0 : Nat) (rs : Int32 → Sg → Option (Unit × Sg)) (hrs : ∀ (v1 : Int32) (σ : Sg) (r : Unit) (σ2 : Sg), rs v1 σ = some (r, σ2) → Ev MT CT d0 21 [.ref 85, .int v1] σ (fun v s => v = none ∧ s = σ2)) {d : Nat} (hd : 3 ≤ d) (hd0 : d0 + 1 ≤ d) {v1 : Int32} {v2 : Int32} {σ : Sg} {r : Nat} {σ2 : Sg} (h : j_readInner_85 rs v1 v2 σ = some (r, σ2)) : Ev MT CT d 25 [.ref 85, .int v1, .int v2] σ (fun v s => v = some (.ref r) ∧ s = σ2) := by
  obtain ⟨d, rfl⟩ : ∃ e, d = e + 1 := ⟨d - 1, by omega⟩
  refine ⟨Nat.le_of_ble_eq_true rfl, ?_⟩
  show Rc none (Ev MT CT d) sg25 (0, [(0, .ref 85), (1, .int v1), (2, .int v2)], [], σ) _
  unfold j_readInner_85 at h
  have hd : 2 ≤ d := by omega
  have hd0 : d0 + 0 ≤ d := by omega
  refine Rc.blk (c := [_, _, _, _]) (s2 := (if ¬ v2 = 115 then 27 else 21, [(3, .int (σ.1 85 3)), (0, .ref 85), (1, .int v1), (2, .int v2)], [], si σ 85 3 ((σ.1 85 3) + 1))) 0 rfl rfl (conj_c (rfl) (conj_c (rfl) (conj_c (rfl) (conj_c (rfl) (trivial))))) ?_
  by_cases c2 : v2 = 115
  · rw [if_pos c2] at h
    refine Rc.ifn (fun q => q c2) ?_
    refine Rc.blk (c := []) (s2 := (24, [(3, .int (σ.1 85 3)), (0, .ref 85), (1, .int v1), (2, .int v2)], [.int 40, .ref 85], si σ 85 3 ((σ.1 85 3) + 1))) 1 rfl rfl (trivial) ?_
    obtain ⟨r1, σ1, hc, h⟩ := bd_some h
    refine Rc.call (Ev.mono d) (v := none) (as := [.ref 85, .int 40]) (r := []) 2 rfl rfl rfl rfl ⟨rfl, Nat.le_of_ble_eq_true rfl⟩ (j_expect_85_ok (by omega) hc) ?_
    show Rc _ _ _ (27, [(3, .int (σ.1 85 3)), (0, .ref 85), (1, .int v1), (2, .int v2)], [], σ1) _
    refine Rc.pick [1, 2, 3, 0] (lv2 := [(0, .ref 85), (1, .int v1), (2, .int v2), (3, .int (σ.1 85 3))]) rfl ?_
    exact j_readInner_85_b27_ok d0 rs hrs hd hd0 _ _ _ _ _ _ h
  · rw [if_neg c2] at h
    refine Rc.ifp c2 ?_
    refine Rc.pick [1, 2, 3, 0] (lv2 := [(0, .ref 85), (1, .int v1), (2, .int v2), (3, .int (σ.1 85 3))]) rfl ?_
    exact j_readInner_85_b27_ok d0 rs hrs hd hd0 _ _ _ _ _ _ h
theorem j_readAtom_85_b98_ok (d0 : Nat) (rs : Int32 → Sg → Option (Unit × Sg)) (hrs : ∀ (v1 : Int32) (σ : Sg) (r : Unit) (σ2 : Sg), rs v1 σ = some (r, σ2) → Ev MT CT d0 21 [.ref 85, .int v1] σ (fun v s => v = none ∧ s = σ2)) {d : Nat} (hd : 3 ≤ d) (hd0 : d0 + 1 ≤ d) (σ : Sg) (r : Nat) (σ2 : Sg) (h : j_readAtom_85_b98 rs σ = some (r, σ2)) : Rc none (Ev MT CT d) sg24 (98, [(0, .ref 85)], [], σ) (fun v s => v = some (.ref r) ∧ s = σ2) := by
  unfold j_readAtom_85_b98 at h
  refine Rc.blk (c := []) (s2 := (99, [(0, .ref 85)], [.ref 85], σ)) 19 rfl rfl (trivial) ?_
  obtain ⟨r1, σ1, hc, h⟩ := bd_some h
  refine Rc.call (Ev.mono d) (v := none) (as := [.ref 85]) (r := []) 20 rfl rfl rfl rfl ⟨rfl, Nat.le_of_ble_eq_true rfl⟩ (j_failHere_85_ok (by omega) hc) ?_
  show Rc _ _ _ (102, [(0, .ref 85)], [], σ1) _
  refine Rc.blk (c := [_]) (s2 := (106, [(0, .ref 85)], [.ref 104], σ1)) 21 rfl rfl (conj_c (rfl) (trivial)) ?_
  obtain ⟨rfl, rfl⟩ := some_pair h
  exact Rc.ret 22 rfl rfl rfl trivial ⟨rfl, rfl⟩
theorem j_readAtom_85_b85_ok (d0 : Nat) (rs : Int32 → Sg → Option (Unit × Sg)) (hrs : ∀ (v1 : Int32) (σ : Sg) (r : Unit) (σ2 : Sg), rs v1 σ = some (r, σ2) → Ev MT CT d0 21 [.ref 85, .int v1] σ (fun v s => v = none ∧ s = σ2)) {d : Nat} (hd : 3 ≤ d) (hd0 : d0 + 1 ≤ d) (v1 : Int32) (v2 : Int32) (σ : Sg) (r : Nat) (σ2 : Sg) (h : j_readAtom_85_b85 rs v1 v2 σ = some (r, σ2)) : Rc none (Ev MT CT d) sg24 (85, [(0, .ref 85), (1, .int v1), (2, .int v2)], [], σ) (fun v s => v = some (.ref r) ∧ s = σ2) := by
  unfold j_readAtom_85_b85 at h
  refine Rc.blk (c := []) (s2 := (if 6 ≤ v1 then 98 else 91, [(0, .ref 85), (1, .int v1), (2, .int v2)], [], σ)) 15 rfl rfl (trivial) ?_
  by_cases c2 : 6 ≤ v1
  · rw [if_pos c2] at h
    refine Rc.ifp c2 ?_
    refine Rc.pick [0] (lv2 := [(0, .ref 85)]) rfl ?_
    exact j_readAtom_85_b98_ok d0 rs hrs hd hd0 _ _ _ h
  · rw [if_neg c2] at h
    refine Rc.ifn c2 ?_
    refine Rc.blk (c := []) (s2 := (94, [(0, .ref 85), (1, .int v1), (2, .int v2)], [.int v2, .int v1, .ref 85], σ)) 16 rfl rfl (trivial) ?_
    obtain ⟨r1, σ1, hc, h⟩ := bd_some h
    refine Rc.call (Ev.mono d) (v := some (.ref r1)) (as := [.ref 85, .int v1, .int v2]) (r := []) 17 rfl rfl rfl rfl ⟨rfl, Nat.le_of_ble_eq_true rfl⟩ (j_readInner_85_ok d0 rs hrs (by omega) (by omega) hc) ?_
    show Rc _ _ _ (97, [(0, .ref 85), (1, .int v1), (2, .int v2)], [.ref r1], σ1) _
    obtain ⟨rfl, rfl⟩ := some_pair h
    exact Rc.ret 18 rfl rfl rfl trivial ⟨rfl, rfl⟩
theorem j_readAtom_85_b57_ok (d0 : Nat) (rs : Int32 → Sg → Option (Unit × Sg)) (hrs : ∀ (v1 : Int32) (σ : Sg) (r : Unit) (σ2 : Sg), rs v1 σ = some (r, σ2) → Ev MT CT d0 21 [.ref 85, .int v1] σ (fun v s => v = none ∧ s = σ2)) {d : Nat} (hd : 3 ≤ d) (hd0 : d0 + 1 ≤ d) (v1 : Int32) (v2 : Int32) (σ : Sg) (r : Nat) (σ2 : Sg) (h : j_readAtom_85_b57 rs v1 v2 σ = some (r, σ2)) : Rc none (Ev MT CT d) sg24 (57, [(0, .ref 85), (1, .int v1), (2, .int v2)], [], σ) (fun v s => v = some (.ref r) ∧ s = σ2) := by
  unfold j_readAtom_85_b57 at h
  refine Rc.blk (c := []) (s2 := (58, [(0, .ref 85), (1, .int v1), (2, .int v2)], [.int v2], σ)) 6 rfl rfl (trivial) ?_
  obtain ⟨r1, σ1, hc, h⟩ := bd_some h
  refine Rc.call (Ev.mono d) (v := some (.int r1)) (as := [.int v2]) (r := []) 7 rfl rfl rfl rfl (Nat.le_of_ble_eq_true rfl) (j_isDigit_s_ok (by omega) hc) ?_
  show Rc _ _ _ (61, [(0, .ref 85), (1, .int v1), (2, .int v2)], [.int r1], σ1) _
  refine Rc.blk (c := []) (s2 := (if r1 = 0 then 73 else 64, [(0, .ref 85), (1, .int v1), (2, .int v2)], [], σ1)) 8 rfl rfl (trivial) ?_
  by_cases c5 : r1 = 0
  · rw [if_pos c5] at h
    refine Rc.ifp c5 ?_
    refine Rc.blk (c := []) (s2 := (if v2 = 40 then 85 else 79, [(0, .ref 85), (1, .int v1), (2, .int v2)], [], σ1)) 13 rfl rfl (trivial) ?_
    by_cases c3 : v2 = 40
    · rw [if_pos c3] at h
      refine Rc.ifp c3 ?_
      exact j_readAtom_85_b85_ok d0 rs hrs hd hd0 _ _ _ _ _ h
    · rw [if_neg c3] at h
      refine Rc.ifn c3 ?_
      refine Rc.blk (c := []) (s2 := (if ¬ v2 = 115 then 98 else 85, [(0, .ref 85), (1, .int v1), (2, .int v2)], [], σ1)) 14 rfl rfl (trivial) ?_
      by_cases c2 : v2 = 115
      · rw [if_pos c2] at h
        refine Rc.ifn (fun q => q c2) ?_
        exact j_readAtom_85_b85_ok d0 rs hrs hd hd0 _ _ _ _ _ h
      · rw [if_neg c2] at h
        refine Rc.ifp c2 ?_
        refine Rc.pick [0] (lv2 := [(0, .ref 85)]) rfl ?_
        exact j_readAtom_85_b98_ok d0 rs hrs hd hd0 _ _ _ h
  · rw [if_neg c5] at h
    refine Rc.ifn c5 ?_
    refine Rc.blk (c := []) (s2 := (65, [(0, .ref 85), (1, .int v1), (2, .int v2)], [.ref 85], σ1)) 9 rfl rfl (trivial) ?_
    obtain ⟨r4, σ4, hc, h⟩ := bd_some h
    refine Rc.call (Ev.mono d) (v := none) (as := [.ref 85]) (r := []) 10 rfl rfl rfl rfl ⟨rfl, Nat.le_of_ble_eq_true rfl⟩ (j_readNumber_85_ok (by omega) hc) ?_
    show Rc _ _ _ (68, [(0, .ref 85), (1, .int v1), (2, .int v2)], [], σ4) _
    refine Rc.blk (c := [_]) (s2 := (72, [(0, .ref 85), (1, .int v1), (2, .int v2)], [.ref 104], σ4)) 11 rfl rfl (conj_c (rfl) (trivial)) ?_
    obtain ⟨rfl, rfl⟩ := some_pair h
    exact Rc.ret 12 rfl rfl rfl trivial ⟨rfl, rfl⟩
theorem j_readAtom_85_ok (d0 : Nat) (rs : Int32 → Sg → Option (Unit × Sg)) (hrs : ∀ (v1 : Int32) (σ : Sg) (r : Unit) (σ2 : Sg), rs v1 σ = some (r, σ2) → Ev MT CT d0 21 [.ref 85, .int v1] σ (fun v s => v = none ∧ s = σ2)) {d : Nat} (hd : 4 ≤ d) (hd0 : d0 + 2 ≤ d) {v1 : Int32} {σ : Sg} {r : Nat} {σ2 : Sg} (h : j_readAtom_85 rs v1 σ = some (r, σ2)) : Ev MT CT d 24 [.ref 85, .int v1] σ (fun v s => v = some (.ref r) ∧ s = σ2) := by
  obtain ⟨d, rfl⟩ : ∃ e, d = e + 1 := ⟨d - 1, by omega⟩
  refine ⟨Nat.le_of_ble_eq_true rfl, ?_⟩
  show Rc none (Ev MT CT d) sg24 (0, [(0, .ref 85), (1, .int v1)], [], σ) _
  unfold j_readAtom_85 at h
  have hd : 3 ≤ d := by omega
  have hd0 : d0 + 1 ≤ d := by omega
  refine Rc.blk (c := []) (s2 := (1, [(0, .ref 85), (1, .int v1)], [.ref 85], σ)) 0 rfl rfl (trivial) ?_
  obtain ⟨r1, σ1, hc, h⟩ := bd_some h
  refine Rc.call (Ev.mono d) (v := some (.int r1)) (as := [.ref 85]) (r := []) 1 rfl rfl rfl rfl ⟨rfl, Nat.le_of_ble_eq_true rfl⟩ (j_next_85_ok (by omega) hc) ?_
  show Rc _ _ _ (4, [(0, .ref 85), (1, .int v1)], [.int r1], σ1) _
  refine Rc.blk (c := []) (s2 := (if (r1 - 65) < 0 then 57 else 14, [(3, .int (r1 - 65)), (2, .int r1), (0, .ref 85), (1, .int v1)], [], σ1)) 2 rfl rfl (trivial) ?_
  by_cases c4 : (r1 - 65) < 0
  · rw [if_pos c4] at h
    refine Rc.ifp c4 ?_
    refine Rc.pick [2, 3, 1] (lv2 := [(0, .ref 85), (1, .int v1), (2, .int r1)]) rfl ?_
    exact j_readAtom_85_b57_ok d0 rs hrs hd hd0 _ _ _ _ _ h
  · rw [if_neg c4] at h
    refine Rc.ifn c4 ?_
    refine Rc.blk (c := [_, _]) (s2 := (if (σ1.1 51 0) ≤ (r1 - 65) then 57 else 25, [(3, .int (r1 - 65)), (2, .int r1), (0, .ref 85), (1, .int v1)], [], σ1)) 3 rfl rfl (conj_c (rfl) (conj_c (rfl) (trivial))) ?_
    by_cases c3 : (σ1.1 51 0) ≤ (r1 - 65)
    · rw [if_pos c3] at h
      refine Rc.ifp c3 ?_
      refine Rc.pick [2, 3, 1] (lv2 := [(0, .ref 85), (1, .int v1), (2, .int r1)]) rfl ?_
      exact j_readAtom_85_b57_ok d0 rs hrs hd hd0 _ _ _ _ _ h
    · rw [if_neg c3] at h
      refine Rc.ifn c3 ?_
      obtain ⟨g2, h⟩ := gd_some h
      refine Rc.blk (c := [_, _, _, _, _, _, _, _, _]) (s2 := (56, [(3, .int (r1 - 65)), (2, .int r1), (0, .ref 85), (1, .int v1)], [.ref (52 + 1 + (r1 - 65).toNatClampNeg)], si (si σ1 85 3 ((σ1.1 85 3) + 1)) 85 6 (((si σ1 85 3 ((σ1.1 85 3) + 1)).1 85 6) ||| ((1 : Int32) <<< ((r1 - 65) &&& 31))))) 4 rfl rfl (conj_c (rfl) (conj_c (rfl) (conj_c (rfl) (conj_c (rfl) (conj_c (rfl) (conj_c (rfl) (conj_c (rfl) (conj_c (rfl) (conj_c (⟨Or.inl rfl, inB_in g2⟩) (trivial)))))))))) ?_
      obtain ⟨rfl, rfl⟩ := some_pair h
      exact Rc.ret 5 rfl rfl rfl trivial ⟨rfl, rfl⟩
theorem j_readPart_85_H17_ok (d0 : Nat) (rs : Int32 → Sg → Option (Unit × Sg)) (hrs : ∀ (v1 : Int32) (σ : Sg) (r : Unit) (σ2 : Sg), rs v1 σ = some (r, σ2) → Ev MT CT d0 21 [.ref 85, .int v1] σ (fun v s => v = none ∧ s = σ2)) {d : Nat} (hd : 4 ≤ d) (hd0 : d0 + 2 ≤ d) {k17 : Int32 → Nat → Int32 → Int32 → Sg → Option (Unit × Sg)} (hk17 : ∀ (v1 : Int32) (v3 : Nat) (v4 : Int32) (v5 : Int32) (σ : Sg) (r : Unit) (σ2 : Sg), k17 v1 v3 v4 v5 σ = some (r, σ2) → Rc none (Ev MT CT d) sg23 (17, [(0, .ref 85), (1, .int v1), (3, .ref v3), (4, .int v4), (5, .int v5)], [], σ) (fun v s => v = none ∧ s = σ2)) (v1 : Int32) (v3 : Nat) (v4 : Int32) (v5 : Int32) (σ : Sg) (r : Unit) (σ2 : Sg) (h : j_readPart_85_H17 rs k17 v1 v3 v4 v5 σ = some (r, σ2)) : Rc none (Ev MT CT d) sg23 (17, [(0, .ref 85), (1, .int v1), (3, .ref v3), (4, .int v4), (5, .int v5)], [], σ) (fun v s => v = none ∧ s = σ2) := by
  unfold j_readPart_85_H17 at h
  refine Rc.blk (c := []) (s2 := (if 5 ≤ v5 then 48 else 23, [(0, .ref 85), (1, .int v1), (3, .ref v3), (4, .int v4), (5, .int v5)], [], σ)) 5 rfl rfl (trivial) ?_
  by_cases c5 : 5 ≤ v5
  · rw [if_pos c5] at h
    refine Rc.ifp c5 ?_
    obtain ⟨rfl, rfl⟩ := some_pair h
    exact Rc.ret 7 rfl rfl rfl trivial ⟨rfl, rfl⟩
  · rw [if_neg c5] at h
    refine Rc.ifn c5 ?_
    obtain ⟨g1, h⟩ := gd_some h
    obtain ⟨g2, h⟩ := gd_some h
    obtain ⟨g3, h⟩ := gd_some h
    obtain ⟨g4, h⟩ := gd_some h
    refine Rc.blk (c := [_, _, _, _, _, _]) (s2 := (17, [(5, .int (v5 + 1)), (0, .ref 85), (1, .int v1), (3, .ref v3), (4, .int v4)], [], si σ (96 + 1 + v1.toNatClampNeg) v5.toNatClampNeg ((σ.1 (96 + 1 + v1.toNatClampNeg) v5.toNatClampNeg) + (v4 * (σ.1 v3 v5.toNatClampNeg))))) 6 rfl rfl (conj_c (rfl) (conj_c (⟨Or.inl rfl, inB_in g1⟩) (conj_c (⟨rfl, rfl⟩) (conj_c (arB_in g2) (conj_c (arB_in g3) (conj_c (arB_in g4) (trivial))))))) ?_
    refine Rc.pick [1, 2, 3, 4, 0] (lv2 := [(0, .ref 85), (1, .int v1), (3, .ref v3), (4, .int v4), (5, .int (v5 + 1))]) rfl ?_
    exact hk17 _ _ _ _ _ _ _ h
theorem j_readPart_85_L17_ok (d0 : Nat) (rs : Int32 → Sg → Option (Unit × Sg)) (hrs : ∀ (v1 : Int32) (σ : Sg) (r : Unit) (σ2 : Sg), rs v1 σ = some (r, σ2) → Ev MT CT d0 21 [.ref 85, .int v1] σ (fun v s => v = none ∧ s = σ2)) {d : Nat} (hd : 4 ≤ d) (hd0 : d0 + 2 ≤ d) : ∀ (n : Nat) (v1 : Int32) (v3 : Nat) (v4 : Int32) (v5 : Int32) (σ : Sg) (r : Unit) (σ2 : Sg), j_readPart_85_L17 rs n v1 v3 v4 v5 σ = some (r, σ2) → Rc none (Ev MT CT d) sg23 (17, [(0, .ref 85), (1, .int v1), (3, .ref v3), (4, .int v4), (5, .int v5)], [], σ) (fun v s => v = none ∧ s = σ2)
  | 0, _, _, _, _, _, _, _, h => by cases h
  | n + 1, v1, v3, v4, v5, σ, r, σ2, h => j_readPart_85_H17_ok d0 rs hrs hd hd0 (j_readPart_85_L17_ok d0 rs hrs hd hd0 n) v1 v3 v4 v5 σ r σ2 h
theorem j_readPart_85_ok (d0 : Nat) (rs : Int32 → Sg → Option (Unit × Sg)) (hrs : ∀ (v1 : Int32) (σ : Sg) (r : Unit) (σ2 : Sg), rs v1 σ = some (r, σ2) → Ev MT CT d0 21 [.ref 85, .int v1] σ (fun v s => v = none ∧ s = σ2)) {d : Nat} (hd : 5 ≤ d) (hd0 : d0 + 3 ≤ d) {v1 : Int32} {v2 : Int32} {σ : Sg} {r : Unit} {σ2 : Sg} (h : j_readPart_85 rs v1 v2 σ = some (r, σ2)) : Ev MT CT d 23 [.ref 85, .int v1, .int v2] σ (fun v s => v = none ∧ s = σ2) := by
  obtain ⟨d, rfl⟩ : ∃ e, d = e + 1 := ⟨d - 1, by omega⟩
  refine ⟨Nat.le_of_ble_eq_true rfl, ?_⟩
  show Rc none (Ev MT CT d) sg23 (0, [(0, .ref 85), (1, .int v1), (2, .int v2)], [], σ) _
  unfold j_readPart_85 at h
  have hd : 4 ≤ d := by omega
  have hd0 : d0 + 2 ≤ d := by omega
  refine Rc.blk (c := []) (s2 := (2, [(0, .ref 85), (1, .int v1), (2, .int v2)], [.int v1, .ref 85], σ)) 0 rfl rfl (trivial) ?_
  obtain ⟨r1, σ1, hc, h⟩ := bd_some h
  refine Rc.call (Ev.mono d) (v := some (.ref r1)) (as := [.ref 85, .int v1]) (r := []) 1 rfl rfl rfl rfl ⟨rfl, Nat.le_of_ble_eq_true rfl⟩ (j_readAtom_85_ok d0 rs hrs (by omega) (by omega) hc) ?_
  show Rc _ _ _ (5, [(0, .ref 85), (1, .int v1), (2, .int v2)], [.ref r1], σ1) _
  refine Rc.blk (c := []) (s2 := (8, [(3, .ref r1), (0, .ref 85), (1, .int v1), (2, .int v2)], [.ref 85, .int v2], σ1)) 2 rfl rfl (trivial) ?_
  obtain ⟨r2, σ2, hc, h⟩ := bd_some h
  refine Rc.call (Ev.mono d) (v := some (.int r2)) (as := [.ref 85]) (r := [.int v2]) 3 rfl rfl rfl rfl ⟨rfl, Nat.le_of_ble_eq_true rfl⟩ (j_readPower_85_ok (by omega) hc) ?_
  show Rc _ _ _ (11, [(3, .ref r1), (0, .ref 85), (1, .int v1), (2, .int v2)], [.int r2, .int v2], σ2) _
  refine Rc.blk (c := []) (s2 := (17, [(5, .int 0), (4, .int (v2 * r2)), (3, .ref r1), (0, .ref 85), (1, .int v1), (2, .int v2)], [], σ2)) 4 rfl rfl (trivial) ?_
  refine Rc.pick [3, 4, 2, 1, 0] (lv2 := [(0, .ref 85), (1, .int v1), (3, .ref r1), (4, .int (v2 * r2)), (5, .int 0)]) rfl ?_
  exact j_readPart_85_L17_ok d0 rs hrs hd hd0 fu _ _ _ _ _ _ _ h
theorem j_readTerm_85_b82_ok (d0 : Nat) (rs : Int32 → Sg → Option (Unit × Sg)) (hrs : ∀ (v1 : Int32) (σ : Sg) (r : Unit) (σ2 : Sg), rs v1 σ = some (r, σ2) → Ev MT CT d0 21 [.ref 85, .int v1] σ (fun v s => v = none ∧ s = σ2)) {d : Nat} (hd : 5 ≤ d) (hd0 : d0 + 3 ≤ d) (σ : Sg) (r : Unit) (σ2 : Sg) (h : j_readTerm_85_b82 rs σ = some (r, σ2)) : Rc none (Ev MT CT d) sg22 (82, [], [], σ) (fun v s => v = none ∧ s = σ2) := by
  unfold j_readTerm_85_b82 at h
  obtain ⟨rfl, rfl⟩ := some_pair h
  exact Rc.ret 17 rfl rfl rfl trivial ⟨rfl, rfl⟩
theorem j_readTerm_85_b59_ok (d0 : Nat) (rs : Int32 → Sg → Option (Unit × Sg)) (hrs : ∀ (v1 : Int32) (σ : Sg) (r : Unit) (σ2 : Sg), rs v1 σ = some (r, σ2) → Ev MT CT d0 21 [.ref 85, .int v1] σ (fun v s => v = none ∧ s = σ2)) {d : Nat} (hd : 5 ≤ d) (hd0 : d0 + 3 ≤ d) {k28 : Int32 → Int32 → Sg → Option (Unit × Sg)} (hk28 : ∀ (v1 : Int32) (v2 : Int32) (σ : Sg) (r : Unit) (σ2 : Sg), k28 v1 v2 σ = some (r, σ2) → Rc none (Ev MT CT d) sg22 (28, [(0, .ref 85), (1, .int v1), (2, .int v2)], [], σ) (fun v s => v = none ∧ s = σ2)) (v1 : Int32) (v2 : Int32) (s0 : Int32) (σ : Sg) (r : Unit) (σ2 : Sg) (h : j_readTerm_85_b59 rs k28 v1 v2 s0 σ = some (r, σ2)) : Rc none (Ev MT CT d) sg22 (59, [(0, .ref 85), (1, .int v1), (2, .int v2)], [.int s0], σ) (fun v s => v = none ∧ s = σ2) := by
  unfold j_readTerm_85_b59 at h
  refine Rc.blk (c := [_, _, _]) (s2 := (73, [(3, .int s0), (0, .ref 85), (1, .int v1), (2, .int v2)], [.int s0, .int v1, .ref 85], si σ 85 3 ((σ.1 85 3) + 1))) 14 rfl rfl (conj_c (rfl) (conj_c (rfl) (conj_c (rfl) (trivial)))) ?_
  obtain ⟨r1, σ1, hc, h⟩ := bd_some h
  refine Rc.call (Ev.mono d) (v := none) (as := [.ref 85, .int v1, .int s0]) (r := []) 15 rfl rfl rfl rfl ⟨rfl, Nat.le_of_ble_eq_true rfl⟩ (j_readPart_85_ok d0 rs hrs (by omega) (by omega) hc) ?_
  show Rc _ _ _ (76, [(3, .int s0), (0, .ref 85), (1, .int v1), (2, .int v2)], [], σ1) _
  refine Rc.blk (c := []) (s2 := (28, [(2, .int (v2 + 1)), (3, .int s0), (0, .ref 85), (1, .int v1)], [], σ1)) 16 rfl rfl (trivial) ?_
  refine Rc.pick [2, 3, 0] (lv2 := [(0, .ref 85), (1, .int v1), (2, .int (v2 + 1))]) rfl ?_
  exact hk28 _ _ _ _ _ h
theorem j_readTerm_85_H28_ok (d0 : Nat) (rs : Int32 → Sg → Option (Unit × Sg)) (hrs : ∀ (v1 : Int32) (σ : Sg) (r : Unit) (σ2 : Sg), rs v1 σ = some (r, σ2) → Ev MT CT d0 21 [.ref 85, .int v1] σ (fun v s => v = none ∧ s = σ2)) {d : Nat} (hd : 5 ≤ d) (hd0 : d0 + 3 ≤ d) {k28 : Int32 → Int32 → Sg → Option (Unit × Sg)} (hk28 : ∀ (v1 : Int32) (v2 : Int32) (σ : Sg) (r : Unit) (σ2 : Sg), k28 v1 v2 σ = some (r, σ2) → Rc none (Ev MT CT d) sg22 (28, [(0, .ref 85), (1, .int v1), (2, .int v2)], [], σ) (fun v s => v = none ∧ s = σ2)) (v1 : Int32) (v2 : Int32) (σ : Sg) (r : Unit) (σ2 : Sg) (h : j_readTerm_85_H28 rs k28 v1 v2 σ = some (r, σ2)) : Rc none (Ev MT CT d) sg22 (28, [(0, .ref 85), (1, .int v1), (2, .int v2)], [], σ) (fun v s => v = none ∧ s = σ2) := by
  unfold j_readTerm_85_H28 at h
  refine Rc.blk (c := []) (s2 := (if 72 ≤ v2 then 82 else 34, [(0, .ref 85), (1, .int v1), (2, .int v2)], [], σ)) 5 rfl rfl (trivial) ?_
  by_cases c5 : 72 ≤ v2
  · rw [if_pos c5] at h
    refine Rc.ifp c5 ?_
    refine Rc.pick [] (lv2 := []) rfl ?_
    exact j_readTerm_85_b82_ok d0 rs hrs hd hd0 _ _ _ h
  · rw [if_neg c5] at h
    refine Rc.ifn c5 ?_
    refine Rc.blk (c := []) (s2 := (39, [(0, .ref 85), (1, .int v1), (2, .int v2)], [.int 47, .int 42, .ref 85], σ)) 6 rfl rfl (trivial) ?_
    obtain ⟨r1, σ1, hc, h⟩ := bd_some h
    refine Rc.call (Ev.mono d) (v := some (.int r1)) (as := [.ref 85, .int 42, .int 47]) (r := []) 7 rfl rfl rfl rfl ⟨rfl, Nat.le_of_ble_eq_true rfl⟩ (j_isNext_85_ok (by omega) hc) ?_
    show Rc _ _ _ (42, [(0, .ref 85), (1, .int v1), (2, .int v2)], [.int r1], σ1) _
    refine Rc.blk (c := []) (s2 := (if r1 = 0 then 82 else 45, [(0, .ref 85), (1, .int v1), (2, .int v2)], [], σ1)) 8 rfl rfl (trivial) ?_
    by_cases c4 : r1 = 0
    · rw [if_pos c4] at h
      refine Rc.ifp c4 ?_
      refine Rc.pick [] (lv2 := []) rfl ?_
      exact j_readTerm_85_b82_ok d0 rs hrs hd hd0 _ _ _ h
    · rw [if_neg c4] at h
      refine Rc.ifn c4 ?_
      refine Rc.blk (c := []) (s2 := (46, [(0, .ref 85), (1, .int v1), (2, .int v2)], [.ref 85], σ1)) 9 rfl rfl (trivial) ?_
      obtain ⟨r2, σ2, hc, h⟩ := bd_some h
      refine Rc.call (Ev.mono d) (v := some (.int r2)) (as := [.ref 85]) (r := []) 10 rfl rfl rfl rfl ⟨rfl, Nat.le_of_ble_eq_true rfl⟩ (j_next_85_ok (by omega) hc) ?_
      show Rc _ _ _ (49, [(0, .ref 85), (1, .int v1), (2, .int v2)], [.int r2], σ2) _
      refine Rc.blk (c := []) (s2 := (if ¬ r2 = 42 then 58 else 54, [(0, .ref 85), (1, .int v1), (2, .int v2)], [], σ2)) 11 rfl rfl (trivial) ?_
      by_cases c3 : r2 = 42
      · rw [if_pos c3] at h
        refine Rc.ifn (fun q => q c3) ?_
        refine Rc.blk (c := []) (s2 := (59, [(0, .ref 85), (1, .int v1), (2, .int v2)], [.int 1], σ2)) 12 rfl rfl (trivial) ?_
        exact j_readTerm_85_b59_ok d0 rs hrs hd hd0 hk28 _ _ _ _ _ _ h
      · rw [if_neg c3] at h
        refine Rc.ifp c3 ?_
        refine Rc.blk (c := []) (s2 := (59, [(0, .ref 85), (1, .int v1), (2, .int v2)], [.int (-1)], σ2)) 13 rfl rfl (trivial) ?_
        exact j_readTerm_85_b59_ok d0 rs hrs hd hd0 hk28 _ _ _ _ _ _ h
theorem j_readTerm_85_L28_ok (d0 : Nat) (rs : Int32 → Sg → Option (Unit × Sg)) (hrs : ∀ (v1 : Int32) (σ : Sg) (r : Unit) (σ2 : Sg), rs v1 σ = some (r, σ2) → Ev MT CT d0 21 [.ref 85, .int v1] σ (fun v s => v = none ∧ s = σ2)) {d : Nat} (hd : 5 ≤ d) (hd0 : d0 + 3 ≤ d) : ∀ (n : Nat) (v1 : Int32) (v2 : Int32) (σ : Sg) (r : Unit) (σ2 : Sg), j_readTerm_85_L28 rs n v1 v2 σ = some (r, σ2) → Rc none (Ev MT CT d) sg22 (28, [(0, .ref 85), (1, .int v1), (2, .int v2)], [], σ) (fun v s => v = none ∧ s = σ2)
  | 0, _, _, _, _, _, h => by cases h
  | n + 1, v1, v2, σ, r, σ2, h => j_readTerm_85_H28_ok d0 rs hrs hd hd0 (j_readTerm_85_L28_ok d0 rs hrs hd hd0 n) v1 v2 σ r σ2 h
theorem j_readTerm_85_ok (d0 : Nat) (rs : Int32 → Sg → Option (Unit × Sg)) (hrs : ∀ (v1 : Int32) (σ : Sg) (r : Unit) (σ2 : Sg), rs v1 σ = some (r, σ2) → Ev MT CT d0 21 [.ref 85, .int v1] σ (fun v s => v = none ∧ s = σ2)) {d : Nat} (hd : 6 ≤ d) (hd0 : d0 + 4 ≤ d) {v1 : Int32} {σ : Sg} {r : Unit} {σ2 : Sg} (h : j_readTerm_85 rs v1 σ = some (r, σ2)) : Ev MT CT d 22 [.ref 85, .int v1] σ (fun v s => v = none ∧ s = σ2) := by
  obtain ⟨d, rfl⟩ : ∃ e, d = e + 1 := ⟨d - 1, by omega⟩
  refine ⟨Nat.le_of_ble_eq_true rfl, ?_⟩
  show Rc none (Ev MT CT d) sg22 (0, [(0, .ref 85), (1, .int v1)], [], σ) _
  unfold j_readTerm_85 at h
  have hd : 5 ≤ d := by omega
  have hd0 : d0 + 3 ≤ d := by omega
  obtain ⟨g1, h⟩ := gd_some h
  refine Rc.blk (c := [_, _, _, _, _]) (s2 := (17, [(0, .ref 85), (1, .int v1)], [.int 0, .ref (96 + 1 + v1.toNatClampNeg)], si σ 85 5 ((σ.1 85 5) + 1))) 0 rfl rfl (conj_c (rfl) (conj_c (rfl) (conj_c (rfl) (conj_c (rfl) (conj_c (⟨Or.inl rfl, inB_in g1⟩) (trivial)))))) ?_
  obtain ⟨r2, σ2, hc, h⟩ := bd_some h
  refine Rc.call (Ev.mono d) (v := none) (as := [.ref (96 + 1 + v1.toNatClampNeg), .int 0]) (r := []) 1 rfl rfl rfl rfl (Nat.le_of_ble_eq_true rfl) (j_fillAII_x_ok (by omega) hc) ?_
  show Rc _ _ _ (20, [(0, .ref 85), (1, .int v1)], [], σ2) _
  refine Rc.blk (c := []) (s2 := (23, [(0, .ref 85), (1, .int v1)], [.int 1, .int v1, .ref 85], σ2)) 2 rfl rfl (trivial) ?_
  obtain ⟨r3, σ3, hc, h⟩ := bd_some h
  refine Rc.call (Ev.mono d) (v := none) (as := [.ref 85, .int v1, .int 1]) (r := []) 3 rfl rfl rfl rfl ⟨rfl, Nat.le_of_ble_eq_true rfl⟩ (j_readPart_85_ok d0 rs hrs (by omega) (by omega) hc) ?_
  show Rc _ _ _ (26, [(0, .ref 85), (1, .int v1)], [], σ3) _
  refine Rc.blk (c := []) (s2 := (28, [(2, .int 0), (0, .ref 85), (1, .int v1)], [], σ3)) 4 rfl rfl (trivial) ?_
  refine Rc.pick [1, 2, 0] (lv2 := [(0, .ref 85), (1, .int v1), (2, .int 0)]) rfl ?_
  exact j_readTerm_85_L28_ok d0 rs hrs hd hd0 fu _ _ _ _ _ h
theorem j_readSum_85_b91_ok (d0 : Nat) (rs : Int32 → Sg → Option (Unit × Sg)) (hrs : ∀ (v1 : Int32) (σ : Sg) (r : Unit) (σ2 : Sg), rs v1 σ = some (r, σ2) → Ev MT CT d0 21 [.ref 85, .int v1] σ (fun v s => v = none ∧ s = σ2)) {d : Nat} (hd : 6 ≤ d) (hd0 : d0 + 4 ≤ d) (σ : Sg) (r : Unit) (σ2 : Sg) (h : j_readSum_85_b91 rs σ = some (r, σ2)) : Rc none (Ev MT CT d) sg21 (91, [], [], σ) (fun v s => v = none ∧ s = σ2) := by
  unfold j_readSum_85_b91 at h
  obtain ⟨rfl, rfl⟩ := some_pair h
  exact Rc.ret 15 rfl rfl rfl trivial ⟨rfl, rfl⟩
theorem j_readSum_85_b85_ok (d0 : Nat) (rs : Int32 → Sg → Option (Unit × Sg)) (hrs : ∀ (v1 : Int32) (σ : Sg) (r : Unit) (σ2 : Sg), rs v1 σ = some (r, σ2) → Ev MT CT d0 21 [.ref 85, .int v1] σ (fun v s => v = none ∧ s = σ2)) {d : Nat} (hd : 6 ≤ d) (hd0 : d0 + 4 ≤ d) {k25 : Int32 → Int32 → Sg → Option (Unit × Sg)} (hk25 : ∀ (v1 : Int32) (v2 : Int32) (σ : Sg) (r : Unit) (σ2 : Sg), k25 v1 v2 σ = some (r, σ2) → Rc none (Ev MT CT d) sg21 (25, [(0, .ref 85), (1, .int v1), (2, .int v2)], [], σ) (fun v s => v = none ∧ s = σ2)) (v1 : Int32) (v2 : Int32) (σ : Sg) (r : Unit) (σ2 : Sg) (h : j_readSum_85_b85 rs k25 v1 v2 σ = some (r, σ2)) : Rc none (Ev MT CT d) sg21 (85, [(0, .ref 85), (1, .int v1), (2, .int v2)], [], σ) (fun v s => v = none ∧ s = σ2) := by
  unfold j_readSum_85_b85 at h
  refine Rc.blk (c := []) (s2 := (25, [(2, .int (v2 + 1)), (0, .ref 85), (1, .int v1)], [], σ)) 14 rfl rfl (trivial) ?_
  refine Rc.pick [1, 2, 0] (lv2 := [(0, .ref 85), (1, .int v1), (2, .int (v2 + 1))]) rfl ?_
  exact hk25 _ _ _ _ _ h
set_option maxRecDepth 100000 in
theorem j_readSum_85_H25_ok (d0 : Nat) (rs : Int32 → Sg → Option (Unit × Sg)) (hrs : ∀ (v1 : Int32) (σ : Sg) (r : Unit) (σ2 : Sg), rs v1 σ = some (r, σ2) → Ev MT CT d0 21 [.ref 85, .int v1] σ (fun v s => v = none ∧ s = σ2)) {d : Nat} (hd : 6 ≤ d) (hd0 : d0 + 4 ≤ d) {k25 : Int32 → Int32 → Sg → Option (Unit × Sg)} (hk25 : ∀ (v1 : Int32) (v2 : Int32) (σ : Sg) (r : Unit) (σ2 : Sg), k25 v1 v2 σ = some (r, σ2) → Rc none (Ev MT CT d) sg21 (25, [(0, .ref 85), (1, .int v1), (2, .int v2)], [], σ) (fun v s => v = none ∧ s = σ2)) (v1 : Int32) (v2 : Int32) (σ : Sg) (r : Unit) (σ2 : Sg) (h : j_readSum_85_H25 rs k25 v1 v2 σ = some (r, σ2)) : Rc none (Ev MT CT d) sg21 (25, [(0, .ref 85), (1, .int v1), (2, .int v2)], [], σ) (fun v s => v = none ∧ s = σ2) := by
  unfold j_readSum_85_H25 at h
  refine Rc.blk (c := []) (s2 := (if 72 ≤ v2 then 91 else 31, [(0, .ref 85), (1, .int v1), (2, .int v2)], [], σ)) 3 rfl rfl (trivial) ?_
  by_cases c9 : 72 ≤ v2
  · rw [if_pos c9] at h
    refine Rc.ifp c9 ?_
    refine Rc.pick [] (lv2 := []) rfl ?_
    exact j_readSum_85_b91_ok d0 rs hrs hd hd0 _ _ _ h
  · rw [if_neg c9] at h
    refine Rc.ifn c9 ?_
    refine Rc.blk (c := []) (s2 := (36, [(0, .ref 85), (1, .int v1), (2, .int v2)], [.int 45, .int 43, .ref 85], σ)) 4 rfl rfl (trivial) ?_
    obtain ⟨r1, σ1, hc, h⟩ := bd_some h
    refine Rc.call (Ev.mono d) (v := some (.int r1)) (as := [.ref 85, .int 43, .int 45]) (r := []) 5 rfl rfl rfl rfl ⟨rfl, Nat.le_of_ble_eq_true rfl⟩ (j_isNext_85_ok (by omega) hc) ?_
    show Rc _ _ _ (39, [(0, .ref 85), (1, .int v1), (2, .int v2)], [.int r1], σ1) _
    refine Rc.blk (c := []) (s2 := (if r1 = 0 then 91 else 42, [(0, .ref 85), (1, .int v1), (2, .int v2)], [], σ1)) 6 rfl rfl (trivial) ?_
    by_cases c8 : r1 = 0
    · rw [if_pos c8] at h
      refine Rc.ifp c8 ?_
      refine Rc.pick [] (lv2 := []) rfl ?_
      exact j_readSum_85_b91_ok d0 rs hrs hd hd0 _ _ _ h
    · rw [if_neg c8] at h
      refine Rc.ifn c8 ?_
      refine Rc.blk (c := [_, _, _, _]) (s2 := (59, [(3, .int ((si σ1 85 3 ((σ1.1 85 3) + 1)).1 85 3)), (0, .ref 85), (1, .int v1), (2, .int v2)], [.int v1, .ref 85], si σ1 85 3 ((σ1.1 85 3) + 1))) 7 rfl rfl (conj_c (rfl) (conj_c (rfl) (conj_c (rfl) (conj_c (rfl) (trivial))))) ?_
      obtain ⟨r2, σ2, hc, h⟩ := bd_some h
      refine Rc.call (Ev.mono d) (v := none) (as := [.ref 85, .int v1]) (r := []) 8 rfl rfl rfl rfl ⟨rfl, Nat.le_of_ble_eq_true rfl⟩ (j_readTerm_85_ok d0 rs hrs (by omega) (by omega) hc) ?_
      show Rc _ _ _ (62, [(3, .int ((si σ1 85 3 ((σ1.1 85 3) + 1)).1 85 3)), (0, .ref 85), (1, .int v1), (2, .int v2)], [], σ2) _
      obtain ⟨g3, h⟩ := gd_some h
      obtain ⟨g4, h⟩ := gd_some h
      refine Rc.blk (c := [_, _, _, _]) (s2 := (74, [(3, .int ((si σ1 85 3 ((σ1.1 85 3) + 1)).1 85 3)), (0, .ref 85), (1, .int v1), (2, .int v2)], [.ref (88 + 1 + v1.toNatClampNeg), .ref (96 + 1 + v1.toNatClampNeg)], σ2)) 9 rfl rfl (conj_c (rfl) (conj_c (⟨Or.inl rfl, inB_in g3⟩) (conj_c (rfl) (conj_c (⟨Or.inl rfl, inB_in g4⟩) (trivial))))) ?_
      obtain ⟨r5, σ5, hc, h⟩ := bd_some h
      refine Rc.call (Ev.mono d) (v := some (.int r5)) (as := [.ref (96 + 1 + v1.toNatClampNeg), .ref (88 + 1 + v1.toNatClampNeg)]) (r := []) 10 rfl rfl rfl rfl (Nat.le_of_ble_eq_true rfl) (j_same_x_x_ok (by omega) hc) ?_
      show Rc _ _ _ (77, [(3, .int ((si σ1 85 3 ((σ1.1 85 3) + 1)).1 85 3)), (0, .ref 85), (1, .int v1), (2, .int v2)], [.int r5], σ5) _
      refine Rc.blk (c := []) (s2 := (if ¬ r5 = 0 then 85 else 80, [(3, .int ((si σ1 85 3 ((σ1.1 85 3) + 1)).1 85 3)), (0, .ref 85), (1, .int v1), (2, .int v2)], [], σ5)) 11 rfl rfl (trivial) ?_
      by_cases c7 : r5 = 0
      · rw [if_pos c7] at h
        refine Rc.ifn (fun q => q c7) ?_
        refine Rc.blk (c := []) (s2 := (82, [(3, .int ((si σ1 85 3 ((σ1.1 85 3) + 1)).1 85 3)), (0, .ref 85), (1, .int v1), (2, .int v2)], [.int ((si σ1 85 3 ((σ1.1 85 3) + 1)).1 85 3), .ref 85], σ5)) 12 rfl rfl (trivial) ?_
        obtain ⟨r6, σ6, hc, h⟩ := bd_some h
        refine Rc.call (Ev.mono d) (v := none) (as := [.ref 85, .int ((si σ1 85 3 ((σ1.1 85 3) + 1)).1 85 3)]) (r := []) 13 rfl rfl rfl rfl ⟨rfl, Nat.le_of_ble_eq_true rfl⟩ (j_markWrong_85_ok (by omega) hc) ?_
        show Rc _ _ _ (85, [(3, .int ((si σ1 85 3 ((σ1.1 85 3) + 1)).1 85 3)), (0, .ref 85), (1, .int v1), (2, .int v2)], [], σ6) _
        refine Rc.pick [1, 2, 3] (lv2 := [(0, .ref 85), (1, .int v1), (2, .int v2)]) rfl ?_
        exact j_readSum_85_b85_ok d0 rs hrs hd hd0 hk25 _ _ _ _ _ h
      · rw [if_neg c7] at h
        refine Rc.ifp c7 ?_
        refine Rc.pick [1, 2, 3] (lv2 := [(0, .ref 85), (1, .int v1), (2, .int v2)]) rfl ?_
        exact j_readSum_85_b85_ok d0 rs hrs hd hd0 hk25 _ _ _ _ _ h
theorem j_readSum_85_L25_ok (d0 : Nat) (rs : Int32 → Sg → Option (Unit × Sg)) (hrs : ∀ (v1 : Int32) (σ : Sg) (r : Unit) (σ2 : Sg), rs v1 σ = some (r, σ2) → Ev MT CT d0 21 [.ref 85, .int v1] σ (fun v s => v = none ∧ s = σ2)) {d : Nat} (hd : 6 ≤ d) (hd0 : d0 + 4 ≤ d) : ∀ (n : Nat) (v1 : Int32) (v2 : Int32) (σ : Sg) (r : Unit) (σ2 : Sg), j_readSum_85_L25 rs n v1 v2 σ = some (r, σ2) → Rc none (Ev MT CT d) sg21 (25, [(0, .ref 85), (1, .int v1), (2, .int v2)], [], σ) (fun v s => v = none ∧ s = σ2)
  | 0, _, _, _, _, _, h => by cases h
  | n + 1, v1, v2, σ, r, σ2, h => j_readSum_85_H25_ok d0 rs hrs hd hd0 (j_readSum_85_L25_ok d0 rs hrs hd hd0 n) v1 v2 σ r σ2 h
theorem j_readSum_85_H_ok (d0 : Nat) (rs : Int32 → Sg → Option (Unit × Sg)) (hrs : ∀ (v1 : Int32) (σ : Sg) (r : Unit) (σ2 : Sg), rs v1 σ = some (r, σ2) → Ev MT CT d0 21 [.ref 85, .int v1] σ (fun v s => v = none ∧ s = σ2)) {d : Nat} (hd : 7 ≤ d) (hd0 : d0 + 5 ≤ d) {v1 : Int32} {σ : Sg} {r : Unit} {σ2 : Sg} (h : j_readSum_85_H rs v1 σ = some (r, σ2)) : Ev MT CT d 21 [.ref 85, .int v1] σ (fun v s => v = none ∧ s = σ2) := by
  obtain ⟨d, rfl⟩ : ∃ e, d = e + 1 := ⟨d - 1, by omega⟩
  refine ⟨Nat.le_of_ble_eq_true rfl, ?_⟩
  show Rc none (Ev MT CT d) sg21 (0, [(0, .ref 85), (1, .int v1)], [], σ) _
  unfold j_readSum_85_H at h
  have hd : 6 ≤ d := by omega
  have hd0 : d0 + 4 ≤ d := by omega
  refine Rc.blk (c := []) (s2 := (2, [(0, .ref 85), (1, .int v1)], [.int v1, .ref 85], σ)) 0 rfl rfl (trivial) ?_
  obtain ⟨r1, σ1, hc, h⟩ := bd_some h
  refine Rc.call (Ev.mono d) (v := none) (as := [.ref 85, .int v1]) (r := []) 1 rfl rfl rfl rfl ⟨rfl, Nat.le_of_ble_eq_true rfl⟩ (j_readTerm_85_ok d0 rs hrs (by omega) (by omega) hc) ?_
  show Rc _ _ _ (5, [(0, .ref 85), (1, .int v1)], [], σ1) _
  obtain ⟨g2, h⟩ := gd_some h
  obtain ⟨g3, h⟩ := gd_some h
  obtain ⟨g4, h⟩ := gd_some h
  refine Rc.blk (c := [_, _, _, _, _]) (s2 := (25, [(2, .int 0), (0, .ref 85), (1, .int v1)], [], scp σ1 (96 + 1 + v1.toNatClampNeg) (88 + 1 + v1.toNatClampNeg) 0 0 5)) 2 rfl rfl (conj_c (rfl) (conj_c (⟨Or.inl rfl, inB_in g2⟩) (conj_c (rfl) (conj_c (⟨Or.inl rfl, inB_in g3⟩) (conj_c (cpB_ok (by decide) g4) (trivial)))))) ?_
  refine Rc.pick [1, 2, 0] (lv2 := [(0, .ref 85), (1, .int v1), (2, .int 0)]) rfl ?_
  exact j_readSum_85_L25_ok d0 rs hrs hd hd0 fu _ _ _ _ _ h
theorem j_readSum_85_lv : ∀ (n : Nat) (v1 : Int32) (σ : Sg) (r : Unit) (σ2 : Sg), j_readSum_85 n v1 σ = some (r, σ2) → Ev MT CT (7 + 5 * n) 21 [.ref 85, .int v1] σ (fun v s => v = none ∧ s = σ2)
  | 0, _, _, _, _, h => by cases h
  | n + 1, v1, σ, r, σ2, h => j_readSum_85_H_ok (7 + 5 * n) (j_readSum_85 n) (j_readSum_85_lv n) (by omega) (by omega) h
theorem j_readSum_85_top {d : Nat} (hd : 67 ≤ d) {v1 : Int32} {σ : Sg} {r : Unit} {σ2 : Sg} (h : j_readSum_85 12 v1 σ = some (r, σ2)) : Ev MT CT d 21 [.ref 85, .int v1] σ (fun v s => v = none ∧ s = σ2) := Ev.le (by omega) (j_readSum_85_lv 12 v1 σ r σ2 h)
theorem j_same_105_106_H2_ok {d : Nat} (hd : 0 ≤ d) {k2 : Int32 → Sg → Option (Int32 × Sg)} (hk2 : ∀ (v2 : Int32) (σ : Sg) (r : Int32) (σ2 : Sg), k2 v2 σ = some (r, σ2) → Rc none (Ev MT CT d) sg34 (2, [(0, .ref 105), (1, .ref 106), (2, .int v2)], [], σ) (fun v s => v = some (.int r) ∧ s = σ2)) (v2 : Int32) (σ : Sg) (r : Int32) (σ2 : Sg) (h : j_same_105_106_H2 k2 v2 σ = some (r, σ2)) : Rc none (Ev MT CT d) sg34 (2, [(0, .ref 105), (1, .ref 106), (2, .int v2)], [], σ) (fun v s => v = some (.int r) ∧ s = σ2) := by
  unfold j_same_105_106_H2 at h
  refine Rc.blk (c := []) (s2 := (if 5 ≤ v2 then 24 else 7, [(0, .ref 105), (1, .ref 106), (2, .int v2)], [], σ)) 1 rfl rfl (trivial) ?_
  by_cases c4 : 5 ≤ v2
  · rw [if_pos c4] at h
    refine Rc.ifp c4 ?_
    refine Rc.blk (c := []) (s2 := (25, [(0, .ref 105), (1, .ref 106), (2, .int v2)], [.int 1], σ)) 6 rfl rfl (trivial) ?_
    obtain ⟨rfl, rfl⟩ := some_pair h
    exact Rc.ret 7 rfl rfl rfl (Or.inr rfl) ⟨rfl, rfl⟩
  · rw [if_neg c4] at h
    refine Rc.ifn c4 ?_
    obtain ⟨g1, h⟩ := gd_some h
    obtain ⟨g2, h⟩ := gd_some h
    refine Rc.blk (c := [_, _]) (s2 := (if (σ.1 105 v2.toNatClampNeg) = (σ.1 106 v2.toNatClampNeg) then 18 else 16, [(0, .ref 105), (1, .ref 106), (2, .int v2)], [], σ)) 2 rfl rfl (conj_c (⟨rfl, inB_in g1⟩) (conj_c (⟨rfl, inB_in g2⟩) (trivial))) ?_
    by_cases c3 : (σ.1 105 v2.toNatClampNeg) = (σ.1 106 v2.toNatClampNeg)
    · rw [if_pos c3] at h
      refine Rc.ifp c3 ?_
      refine Rc.blk (c := []) (s2 := (2, [(2, .int (v2 + 1)), (0, .ref 105), (1, .ref 106)], [], σ)) 5 rfl rfl (trivial) ?_
      refine Rc.pick [1, 2, 0] (lv2 := [(0, .ref 105), (1, .ref 106), (2, .int (v2 + 1))]) rfl ?_
      exact hk2 _ _ _ _ h
    · rw [if_neg c3] at h
      refine Rc.ifn c3 ?_
      refine Rc.blk (c := []) (s2 := (17, [(0, .ref 105), (1, .ref 106), (2, .int v2)], [.int 0], σ)) 3 rfl rfl (trivial) ?_
      obtain ⟨rfl, rfl⟩ := some_pair h
      exact Rc.ret 4 rfl rfl rfl (Or.inl rfl) ⟨rfl, rfl⟩
theorem j_same_105_106_L2_ok {d : Nat} (hd : 0 ≤ d) : ∀ (n : Nat) (v2 : Int32) (σ : Sg) (r : Int32) (σ2 : Sg), j_same_105_106_L2 n v2 σ = some (r, σ2) → Rc none (Ev MT CT d) sg34 (2, [(0, .ref 105), (1, .ref 106), (2, .int v2)], [], σ) (fun v s => v = some (.int r) ∧ s = σ2)
  | 0, _, _, _, _, h => by cases h
  | n + 1, v2, σ, r, σ2, h => j_same_105_106_H2_ok hd (j_same_105_106_L2_ok hd n) v2 σ r σ2 h
theorem j_same_105_106_ok {d : Nat} (hd : 1 ≤ d) {σ : Sg} {r : Int32} {σ2 : Sg} (h : j_same_105_106 σ = some (r, σ2)) : Ev MT CT d 34 [.ref 105, .ref 106] σ (fun v s => v = some (.int r) ∧ s = σ2) := by
  obtain ⟨d, rfl⟩ : ∃ e, d = e + 1 := ⟨d - 1, by omega⟩
  refine ⟨Nat.le_of_ble_eq_true rfl, ?_⟩
  show Rc none (Ev MT CT d) sg34 (0, [(0, .ref 105), (1, .ref 106)], [], σ) _
  unfold j_same_105_106 at h
  have hd : 0 ≤ d := by omega
  refine Rc.blk (c := []) (s2 := (2, [(2, .int 0), (0, .ref 105), (1, .ref 106)], [], σ)) 0 rfl rfl (trivial) ?_
  refine Rc.pick [1, 2, 0] (lv2 := [(0, .ref 105), (1, .ref 106), (2, .int 0)]) rfl ?_
  exact j_same_105_106_L2_ok hd fu _ _ _ _ h
theorem j_read_85_107_b130_ok {d : Nat} (hd : 67 ≤ d) (σ : Sg) (r : Unit) (σ2 : Sg) (h : j_read_85_107_b130 σ = some (r, σ2)) : Rc none (Ev MT CT d) sg20 (130, [], [], σ) (fun v s => v = none ∧ s = σ2) := by
  unfold j_read_85_107_b130 at h
  obtain ⟨rfl, rfl⟩ := some_pair h
  exact Rc.ret 15 rfl rfl rfl trivial ⟨rfl, rfl⟩
theorem j_read_85_107_ok {d : Nat} (hd : 68 ≤ d) {v2 : Int32} {σ : Sg} {r : Unit} {σ2 : Sg} (h : j_read_85_107 v2 σ = some (r, σ2)) : Ev MT CT d 20 [.ref 85, .ref 107, .int v2] σ (fun v s => v = none ∧ s = σ2) := by
  obtain ⟨d, rfl⟩ : ∃ e, d = e + 1 := ⟨d - 1, by omega⟩
  refine ⟨Nat.le_of_ble_eq_true rfl, ?_⟩
  show Rc none (Ev MT CT d) sg20 (0, [(0, .ref 85), (1, .ref 107), (2, .int v2)], [], σ) _
  unfold j_read_85_107 at h
  have hd : 67 ≤ d := by omega
  obtain ⟨g1, h⟩ := gd_some h
  refine Rc.blk (c := [_, _, _, _, _, _, _, _, _, _]) (s2 := (50, [(0, .ref 85), (1, .ref 107), (2, .int v2)], [.int 0, .ref 87], si (si (si (si (scp (si σ 85 2 (imin v2 72)) 107 86 0 0 (((si σ 85 2 (imin v2 72)).1 85 2).toNatClampNeg)) 85 3 0) 85 4 (-9)) 85 5 0) 85 6 0)) 0 rfl rfl (conj_c (Nat.le_of_ble_eq_true rfl) (conj_c (rfl) (conj_c (rfl) (conj_c (rfl) (conj_c (cpB_ok (by decide) g1) (conj_c (rfl) (conj_c (rfl) (conj_c (rfl) (conj_c (rfl) (conj_c (rfl) (trivial))))))))))) ?_
  obtain ⟨r2, σ2, hc, h⟩ := bd_some h
  refine Rc.call (Ev.mono d) (v := none) (as := [.ref 87, .int 0]) (r := []) 1 rfl rfl rfl rfl (Nat.le_of_ble_eq_true rfl) (j_fillAII_87_ok (by omega) hc) ?_
  show Rc _ _ _ (53, [(0, .ref 85), (1, .ref 107), (2, .int v2)], [], σ2) _
  refine Rc.blk (c := []) (s2 := (55, [(0, .ref 85), (1, .ref 107), (2, .int v2)], [.int 0, .ref 85], σ2)) 2 rfl rfl (trivial) ?_
  obtain ⟨r3, σ3, hc, h⟩ := bd_some h
  refine Rc.call (Ev.mono d) (v := none) (as := [.ref 85, .int 0]) (r := []) 3 rfl rfl rfl rfl ⟨rfl, Nat.le_of_ble_eq_true rfl⟩ (j_readSum_85_top (by omega) hc) ?_
  show Rc _ _ _ (58, [(0, .ref 85), (1, .ref 107), (2, .int v2)], [], σ3) _
  obtain ⟨g4, h⟩ := gd_some h
  refine Rc.blk (c := [_, _, _, _, _]) (s2 := (82, [(3, .int ((scp σ3 89 105 0 0 5).1 85 3)), (0, .ref 85), (1, .ref 107), (2, .int v2)], [.int 61, .ref 85], scp σ3 89 105 0 0 5)) 4 rfl rfl (conj_c (rfl) (conj_c (⟨Or.inl rfl, inB_in (by decide)⟩) (conj_c (rfl) (conj_c (cpB_ok (by decide) g4) (conj_c (rfl) (trivial)))))) ?_
  obtain ⟨r5, σ5, hc, h⟩ := bd_some h
  refine Rc.call (Ev.mono d) (v := none) (as := [.ref 85, .int 61]) (r := []) 5 rfl rfl rfl rfl ⟨rfl, Nat.le_of_ble_eq_true rfl⟩ (j_expect_85_ok (by omega) hc) ?_
  show Rc _ _ _ (85, [(3, .int ((scp σ3 89 105 0 0 5).1 85 3)), (0, .ref 85), (1, .ref 107), (2, .int v2)], [], σ5) _
  refine Rc.blk (c := []) (s2 := (87, [(3, .int ((scp σ3 89 105 0 0 5).1 85 3)), (0, .ref 85), (1, .ref 107), (2, .int v2)], [.int 0, .ref 85], σ5)) 6 rfl rfl (trivial) ?_
  obtain ⟨r6, σ6, hc, h⟩ := bd_some h
  refine Rc.call (Ev.mono d) (v := none) (as := [.ref 85, .int 0]) (r := []) 7 rfl rfl rfl rfl ⟨rfl, Nat.le_of_ble_eq_true rfl⟩ (j_readSum_85_top (by omega) hc) ?_
  show Rc _ _ _ (90, [(3, .int ((scp σ3 89 105 0 0 5).1 85 3)), (0, .ref 85), (1, .ref 107), (2, .int v2)], [], σ6) _
  obtain ⟨g7, h⟩ := gd_some h
  refine Rc.blk (c := [_, _, _, _]) (s2 := (108, [(3, .int ((scp σ3 89 105 0 0 5).1 85 3)), (0, .ref 85), (1, .ref 107), (2, .int v2)], [.int (-1), .ref 85], scp σ6 89 106 0 0 5)) 8 rfl rfl (conj_c (rfl) (conj_c (⟨Or.inl rfl, inB_in (by decide)⟩) (conj_c (rfl) (conj_c (cpB_ok (by decide) g7) (trivial))))) ?_
  obtain ⟨r8, σ8, hc, h⟩ := bd_some h
  refine Rc.call (Ev.mono d) (v := none) (as := [.ref 85, .int (-1)]) (r := []) 9 rfl rfl rfl rfl ⟨rfl, Nat.le_of_ble_eq_true rfl⟩ (j_expect_85_ok (by omega) hc) ?_
  show Rc _ _ _ (111, [(3, .int ((scp σ3 89 105 0 0 5).1 85 3)), (0, .ref 85), (1, .ref 107), (2, .int v2)], [], σ8) _
  refine Rc.blk (c := [_, _]) (s2 := (119, [(3, .int ((scp σ3 89 105 0 0 5).1 85 3)), (0, .ref 85), (1, .ref 107), (2, .int v2)], [.ref 106, .ref 105], σ8)) 10 rfl rfl (conj_c (rfl) (conj_c (rfl) (trivial))) ?_
  obtain ⟨r9, σ9, hc, h⟩ := bd_some h
  refine Rc.call (Ev.mono d) (v := some (.int r9)) (as := [.ref 105, .ref 106]) (r := []) 11 rfl rfl rfl rfl (Nat.le_of_ble_eq_true rfl) (j_same_105_106_ok (by omega) hc) ?_
  show Rc _ _ _ (122, [(3, .int ((scp σ3 89 105 0 0 5).1 85 3)), (0, .ref 85), (1, .ref 107), (2, .int v2)], [.int r9], σ9) _
  refine Rc.blk (c := []) (s2 := (if ¬ r9 = 0 then 130 else 125, [(3, .int ((scp σ3 89 105 0 0 5).1 85 3)), (0, .ref 85), (1, .ref 107), (2, .int v2)], [], σ9)) 12 rfl rfl (trivial) ?_
  by_cases c11 : r9 = 0
  · rw [if_pos c11] at h
    refine Rc.ifn (fun q => q c11) ?_
    refine Rc.blk (c := []) (s2 := (127, [(3, .int ((scp σ3 89 105 0 0 5).1 85 3)), (0, .ref 85), (1, .ref 107), (2, .int v2)], [.int ((scp σ3 89 105 0 0 5).1 85 3), .ref 85], σ9)) 13 rfl rfl (trivial) ?_
    obtain ⟨r10, σ10, hc, h⟩ := bd_some h
    refine Rc.call (Ev.mono d) (v := none) (as := [.ref 85, .int ((scp σ3 89 105 0 0 5).1 85 3)]) (r := []) 14 rfl rfl rfl rfl ⟨rfl, Nat.le_of_ble_eq_true rfl⟩ (j_markWrong_85_ok (by omega) hc) ?_
    show Rc _ _ _ (130, [(3, .int ((scp σ3 89 105 0 0 5).1 85 3)), (0, .ref 85), (1, .ref 107), (2, .int v2)], [], σ10) _
    refine Rc.pick [] (lv2 := []) rfl ?_
    exact j_read_85_107_b130_ok hd _ _ _ h
  · rw [if_neg c11] at h
    refine Rc.ifp c11 ?_
    refine Rc.pick [] (lv2 := []) rfl ?_
    exact j_read_85_107_b130_ok hd _ _ _ h
theorem j_formula_0_ok {d : Nat} (hd : 69 ≤ d) {σ : Sg} {r : Int32} {σ2 : Sg} (h : j_formula_0 σ = some (r, σ2)) : Ev MT CT d 82 [.ref 0] σ (fun v s => v = some (.int r) ∧ s = σ2) := by
  obtain ⟨d, rfl⟩ : ∃ e, d = e + 1 := ⟨d - 1, by omega⟩
  refine ⟨Nat.le_of_ble_eq_true rfl, ?_⟩
  show Rc none (Ev MT CT d) sg82 (0, [(0, .ref 0)], [], σ) _
  unfold j_formula_0 at h
  have hd : 68 ≤ d := by omega
  refine Rc.blk (c := [_, _, _]) (s2 := (12, [(0, .ref 0)], [.int (σ.1 0 9), .ref 107, .ref 85], σ)) 0 rfl rfl (conj_c (rfl) (conj_c (rfl) (conj_c (rfl) (trivial)))) ?_
  obtain ⟨r1, σ1, hc, h⟩ := bd_some h
  refine Rc.call (Ev.mono d) (v := none) (as := [.ref 85, .ref 107, .int (σ.1 0 9)]) (r := []) 1 rfl rfl rfl rfl ⟨rfl, Nat.le_of_ble_eq_true rfl⟩ (j_read_85_107_ok (by omega) hc) ?_
  show Rc _ _ _ (15, [(0, .ref 0)], [], σ1) _
  refine Rc.blk (c := [_, _, _, _]) (s2 := (if ((si σ1 0 9 0).1 85 4) = (-9) then 49 else 37, [(1, .int (σ1.1 0 9)), (0, .ref 0)], [], si σ1 0 9 0)) 2 rfl rfl (conj_c (rfl) (conj_c (rfl) (conj_c (rfl) (conj_c (rfl) (trivial))))) ?_
  by_cases c3 : ((si σ1 0 9 0).1 85 4) = (-9)
  · rw [if_pos c3] at h
    refine Rc.ifp c3 ?_
    refine Rc.blk (c := [_, _, _, _]) (s2 := (65, [(1, .int (σ1.1 0 9)), (0, .ref 0)], [.int ((si σ1 0 9 0).1 85 5), .int (σ1.1 0 9), .ref 107, .ref 1], si σ1 0 9 0)) 5 rfl rfl (conj_c (rfl) (conj_c (rfl) (conj_c (rfl) (conj_c (rfl) (trivial))))) ?_
    obtain ⟨r2, σ2, hc, h⟩ := bd_some h
    refine Rc.call (Ev.mono d) (v := none) (as := [.ref 1, .ref 107, .int (σ1.1 0 9), .int ((si σ1 0 9 0).1 85 5)]) (r := []) 6 rfl rfl rfl rfl ⟨rfl, Nat.le_of_ble_eq_true rfl⟩ (j_keepFormula_1_107_ok (by omega) hc) ?_
    show Rc _ _ _ (68, [(1, .int (σ1.1 0 9)), (0, .ref 0)], [], σ2) _
    refine Rc.blk (c := [_, _]) (s2 := (75, [(1, .int (σ1.1 0 9)), (0, .ref 0)], [.int (σ2.1 85 5)], σ2)) 7 rfl rfl (conj_c (rfl) (conj_c (rfl) (trivial))) ?_
    obtain ⟨rfl, rfl⟩ := some_pair h
    exact Rc.ret 8 rfl rfl rfl trivial ⟨rfl, rfl⟩
  · rw [if_neg c3] at h
    refine Rc.ifn c3 ?_
    refine Rc.blk (c := [_, _]) (s2 := (48, [(1, .int (σ1.1 0 9)), (0, .ref 0)], [.int ((-1000) - ((si σ1 0 9 0).1 85 4))], si σ1 0 9 0)) 3 rfl rfl (conj_c (rfl) (conj_c (rfl) (trivial))) ?_
    obtain ⟨rfl, rfl⟩ := some_pair h
    exact Rc.ret 4 rfl rfl rfl trivial ⟨rfl, rfl⟩
theorem j_hasFormula_1_b14_ok {d : Nat} (hd : 0 ≤ d) (s0 : Int32) (σ : Sg) (r : Int32) (σ2 : Sg) (h : j_hasFormula_1_b14 s0 σ = some (r, σ2)) : Rc none (Ev MT CT d) sg14 (14, [], [.int s0], σ) (fun v s => v = some (.int r) ∧ s = σ2) := by
  unfold j_hasFormula_1_b14 at h
  obtain ⟨g, h⟩ := gd_some h
  obtain ⟨rfl, rfl⟩ := some_pair h
  exact Rc.ret 3 rfl rfl rfl (nbB_ok g) ⟨rfl, rfl⟩
theorem j_hasFormula_1_ok {d : Nat} (hd : 1 ≤ d) {σ : Sg} {r : Int32} {σ2 : Sg} (h : j_hasFormula_1 σ = some (r, σ2)) : Ev MT CT d 14 [.ref 1] σ (fun v s => v = some (.int r) ∧ s = σ2) := by
  obtain ⟨d, rfl⟩ : ∃ e, d = e + 1 := ⟨d - 1, by omega⟩
  refine ⟨Nat.le_of_ble_eq_true rfl, ?_⟩
  show Rc none (Ev MT CT d) sg14 (0, [(0, .ref 1)], [], σ) _
  unfold j_hasFormula_1 at h
  have hd : 0 ≤ d := by omega
  refine Rc.blk (c := [_]) (s2 := (if (σ.1 1 7) = (-9) then 13 else 9, [(0, .ref 1)], [], σ)) 0 rfl rfl (conj_c (rfl) (trivial)) ?_
  by_cases c1 : (σ.1 1 7) = (-9)
  · rw [if_pos c1] at h
    refine Rc.ifp c1 ?_
    refine Rc.blk (c := []) (s2 := (14, [(0, .ref 1)], [.int 0], σ)) 2 rfl rfl (trivial) ?_
    refine Rc.pick [] (lv2 := []) rfl ?_
    exact j_hasFormula_1_b14_ok hd _ _ _ _ h
  · rw [if_neg c1] at h
    refine Rc.ifn c1 ?_
    refine Rc.blk (c := []) (s2 := (14, [(0, .ref 1)], [.int 1], σ)) 1 rfl rfl (trivial) ?_
    refine Rc.pick [] (lv2 := []) rfl ?_
    exact j_hasFormula_1_b14_ok hd _ _ _ _ h
theorem j_countWrong_85_H13_ok {d : Nat} (hd : 0 ≤ d) {k13 : Int32 → Int32 → Int32 → Sg → Option (Int32 × Sg)} (hk13 : ∀ (v1 : Int32) (v3 : Int32) (v4 : Int32) (σ : Sg) (r : Int32) (σ2 : Sg), k13 v1 v3 v4 σ = some (r, σ2) → Rc none (Ev MT CT d) sg37 (13, [(1, .int v1), (2, .ref 87), (3, .int v3), (4, .int v4)], [], σ) (fun v s => v = some (.int r) ∧ s = σ2)) (v1 : Int32) (v3 : Int32) (v4 : Int32) (σ : Sg) (r : Int32) (σ2 : Sg) (h : j_countWrong_85_H13 k13 v1 v3 v4 σ = some (r, σ2)) : Rc none (Ev MT CT d) sg37 (13, [(1, .int v1), (2, .ref 87), (3, .int v3), (4, .int v4)], [], σ) (fun v s => v = some (.int r) ∧ s = σ2) := by
  unfold j_countWrong_85_H13 at h
  refine Rc.blk (c := []) (s2 := (if v3 ≤ v4 then 36 else 19, [(1, .int v1), (2, .ref 87), (3, .int v3), (4, .int v4)], [], σ)) 1 rfl rfl (trivial) ?_
  by_cases c2 : v3 ≤ v4
  · rw [if_pos c2] at h
    refine Rc.ifp c2 ?_
    refine Rc.blk (c := []) (s2 := (37, [(1, .int v1), (2, .ref 87), (3, .int v3), (4, .int v4)], [.int v1], σ)) 3 rfl rfl (trivial) ?_
    obtain ⟨rfl, rfl⟩ := some_pair h
    exact Rc.ret 4 rfl rfl rfl trivial ⟨rfl, rfl⟩
  · rw [if_neg c2] at h
    refine Rc.ifn c2 ?_
    obtain ⟨g1, h⟩ := gd_some h
    refine Rc.blk (c := [_]) (s2 := (13, [(4, .int (v4 + 1)), (1, .int (v1 + (σ.1 87 v4.toNatClampNeg))), (5, .int (σ.1 87 v4.toNatClampNeg)), (2, .ref 87), (3, .int v3)], [], σ)) 2 rfl rfl (conj_c (⟨rfl, inB_in g1⟩) (trivial)) ?_
    refine Rc.pick [1, 3, 4, 0] (lv2 := [(1, .int (v1 + (σ.1 87 v4.toNatClampNeg))), (2, .ref 87), (3, .int v3), (4, .int (v4 + 1))]) rfl ?_
    exact hk13 _ _ _ _ _ _ h
theorem j_countWrong_85_L13_ok {d : Nat} (hd : 0 ≤ d) : ∀ (n : Nat) (v1 : Int32) (v3 : Int32) (v4 : Int32) (σ : Sg) (r : Int32) (σ2 : Sg), j_countWrong_85_L13 n v1 v3 v4 σ = some (r, σ2) → Rc none (Ev MT CT d) sg37 (13, [(1, .int v1), (2, .ref 87), (3, .int v3), (4, .int v4)], [], σ) (fun v s => v = some (.int r) ∧ s = σ2)
  | 0, _, _, _, _, _, _, h => by cases h
  | n + 1, v1, v3, v4, σ, r, σ2, h => j_countWrong_85_H13_ok hd (j_countWrong_85_L13_ok hd n) v1 v3 v4 σ r σ2 h
theorem j_countWrong_85_ok {d : Nat} (hd : 1 ≤ d) {σ : Sg} {r : Int32} {σ2 : Sg} (h : j_countWrong_85 σ = some (r, σ2)) : Ev MT CT d 37 [.ref 85] σ (fun v s => v = some (.int r) ∧ s = σ2) := by
  obtain ⟨d, rfl⟩ : ∃ e, d = e + 1 := ⟨d - 1, by omega⟩
  refine ⟨Nat.le_of_ble_eq_true rfl, ?_⟩
  show Rc none (Ev MT CT d) sg37 (0, [(0, .ref 85)], [], σ) _
  unfold j_countWrong_85 at h
  have hd : 0 ≤ d := by omega
  refine Rc.blk (c := [_, _]) (s2 := (13, [(4, .int 0), (3, .int 72), (2, .ref 87), (1, .int 0), (0, .ref 85)], [], σ)) 0 rfl rfl (conj_c (rfl) (conj_c ((by decide)) (trivial))) ?_
  refine Rc.pick [3, 2, 1, 0] (lv2 := [(1, .int 0), (2, .ref 87), (3, .int 72), (4, .int 0)]) rfl ?_
  exact j_countWrong_85_L13_ok hd fu _ _ _ _ _ _ h
theorem j_firstWrong_85_H2_ok {d : Nat} (hd : 0 ≤ d) {k2 : Int32 → Sg → Option (Int32 × Sg)} (hk2 : ∀ (v1 : Int32) (σ : Sg) (r : Int32) (σ2 : Sg), k2 v1 σ = some (r, σ2) → Rc none (Ev MT CT d) sg36 (2, [(0, .ref 85), (1, .int v1)], [], σ) (fun v s => v = some (.int r) ∧ s = σ2)) (v1 : Int32) (σ : Sg) (r : Int32) (σ2 : Sg) (h : j_firstWrong_85_H2 k2 v1 σ = some (r, σ2)) : Rc none (Ev MT CT d) sg36 (2, [(0, .ref 85), (1, .int v1)], [], σ) (fun v s => v = some (.int r) ∧ s = σ2) := by
  unfold j_firstWrong_85_H2 at h
  refine Rc.blk (c := [_]) (s2 := (if (σ.1 85 2) ≤ v1 then 28 else 10, [(0, .ref 85), (1, .int v1)], [], σ)) 1 rfl rfl (conj_c (rfl) (trivial)) ?_
  by_cases c3 : (σ.1 85 2) ≤ v1
  · rw [if_pos c3] at h
    refine Rc.ifp c3 ?_
    refine Rc.blk (c := []) (s2 := (30, [(0, .ref 85), (1, .int v1)], [.int (-9)], σ)) 6 rfl rfl (trivial) ?_
    obtain ⟨rfl, rfl⟩ := some_pair h
    exact Rc.ret 7 rfl rfl rfl trivial ⟨rfl, rfl⟩
  · rw [if_neg c3] at h
    refine Rc.ifn c3 ?_
    obtain ⟨g1, h⟩ := gd_some h
    refine Rc.blk (c := [_, _]) (s2 := (if ¬ (σ.1 87 v1.toNatClampNeg) = 1 then 22 else 20, [(0, .ref 85), (1, .int v1)], [], σ)) 2 rfl rfl (conj_c (rfl) (conj_c (⟨rfl, inB_in g1⟩) (trivial))) ?_
    by_cases c2 : (σ.1 87 v1.toNatClampNeg) = 1
    · rw [if_pos c2] at h
      refine Rc.ifn (fun q => q c2) ?_
      refine Rc.blk (c := []) (s2 := (21, [(0, .ref 85), (1, .int v1)], [.int v1], σ)) 3 rfl rfl (trivial) ?_
      obtain ⟨rfl, rfl⟩ := some_pair h
      exact Rc.ret 4 rfl rfl rfl trivial ⟨rfl, rfl⟩
    · rw [if_neg c2] at h
      refine Rc.ifp c2 ?_
      refine Rc.blk (c := []) (s2 := (2, [(1, .int (v1 + 1)), (0, .ref 85)], [], σ)) 5 rfl rfl (trivial) ?_
      refine Rc.pick [1, 0] (lv2 := [(0, .ref 85), (1, .int (v1 + 1))]) rfl ?_
      exact hk2 _ _ _ _ h
theorem j_firstWrong_85_L2_ok {d : Nat} (hd : 0 ≤ d) : ∀ (n : Nat) (v1 : Int32) (σ : Sg) (r : Int32) (σ2 : Sg), j_firstWrong_85_L2 n v1 σ = some (r, σ2) → Rc none (Ev MT CT d) sg36 (2, [(0, .ref 85), (1, .int v1)], [], σ) (fun v s => v = some (.int r) ∧ s = σ2)
  | 0, _, _, _, _, h => by cases h
  | n + 1, v1, σ, r, σ2, h => j_firstWrong_85_H2_ok hd (j_firstWrong_85_L2_ok hd n) v1 σ r σ2 h
theorem j_firstWrong_85_ok {d : Nat} (hd : 1 ≤ d) {σ : Sg} {r : Int32} {σ2 : Sg} (h : j_firstWrong_85 σ = some (r, σ2)) : Ev MT CT d 36 [.ref 85] σ (fun v s => v = some (.int r) ∧ s = σ2) := by
  obtain ⟨d, rfl⟩ : ∃ e, d = e + 1 := ⟨d - 1, by omega⟩
  refine ⟨Nat.le_of_ble_eq_true rfl, ?_⟩
  show Rc none (Ev MT CT d) sg36 (0, [(0, .ref 85)], [], σ) _
  unfold j_firstWrong_85 at h
  have hd : 0 ≤ d := by omega
  refine Rc.blk (c := []) (s2 := (2, [(1, .int 0), (0, .ref 85)], [], σ)) 0 rfl rfl (trivial) ?_
  refine Rc.pick [1, 0] (lv2 := [(0, .ref 85), (1, .int 0)]) rfl ?_
  exact j_firstWrong_85_L2_ok hd fu _ _ _ _ h
theorem j_read_85_14_b130_ok {d : Nat} (hd : 67 ≤ d) (σ : Sg) (r : Unit) (σ2 : Sg) (h : j_read_85_14_b130 σ = some (r, σ2)) : Rc none (Ev MT CT d) sg20 (130, [], [], σ) (fun v s => v = none ∧ s = σ2) := by
  unfold j_read_85_14_b130 at h
  obtain ⟨rfl, rfl⟩ := some_pair h
  exact Rc.ret 15 rfl rfl rfl trivial ⟨rfl, rfl⟩
theorem j_read_85_14_ok {d : Nat} (hd : 68 ≤ d) {v2 : Int32} {σ : Sg} {r : Unit} {σ2 : Sg} (h : j_read_85_14 v2 σ = some (r, σ2)) : Ev MT CT d 20 [.ref 85, .ref 14, .int v2] σ (fun v s => v = none ∧ s = σ2) := by
  obtain ⟨d, rfl⟩ : ∃ e, d = e + 1 := ⟨d - 1, by omega⟩
  refine ⟨Nat.le_of_ble_eq_true rfl, ?_⟩
  show Rc none (Ev MT CT d) sg20 (0, [(0, .ref 85), (1, .ref 14), (2, .int v2)], [], σ) _
  unfold j_read_85_14 at h
  have hd : 67 ≤ d := by omega
  obtain ⟨g1, h⟩ := gd_some h
  refine Rc.blk (c := [_, _, _, _, _, _, _, _, _, _]) (s2 := (50, [(0, .ref 85), (1, .ref 14), (2, .int v2)], [.int 0, .ref 87], si (si (si (si (scp (si σ 85 2 (imin v2 72)) 14 86 0 0 (((si σ 85 2 (imin v2 72)).1 85 2).toNatClampNeg)) 85 3 0) 85 4 (-9)) 85 5 0) 85 6 0)) 0 rfl rfl (conj_c (Nat.le_of_ble_eq_true rfl) (conj_c (rfl) (conj_c (rfl) (conj_c (rfl) (conj_c (cpB_ok (by decide) g1) (conj_c (rfl) (conj_c (rfl) (conj_c (rfl) (conj_c (rfl) (conj_c (rfl) (trivial))))))))))) ?_
  obtain ⟨r2, σ2, hc, h⟩ := bd_some h
  refine Rc.call (Ev.mono d) (v := none) (as := [.ref 87, .int 0]) (r := []) 1 rfl rfl rfl rfl (Nat.le_of_ble_eq_true rfl) (j_fillAII_87_ok (by omega) hc) ?_
  show Rc _ _ _ (53, [(0, .ref 85), (1, .ref 14), (2, .int v2)], [], σ2) _
  refine Rc.blk (c := []) (s2 := (55, [(0, .ref 85), (1, .ref 14), (2, .int v2)], [.int 0, .ref 85], σ2)) 2 rfl rfl (trivial) ?_
  obtain ⟨r3, σ3, hc, h⟩ := bd_some h
  refine Rc.call (Ev.mono d) (v := none) (as := [.ref 85, .int 0]) (r := []) 3 rfl rfl rfl rfl ⟨rfl, Nat.le_of_ble_eq_true rfl⟩ (j_readSum_85_top (by omega) hc) ?_
  show Rc _ _ _ (58, [(0, .ref 85), (1, .ref 14), (2, .int v2)], [], σ3) _
  obtain ⟨g4, h⟩ := gd_some h
  refine Rc.blk (c := [_, _, _, _, _]) (s2 := (82, [(3, .int ((scp σ3 89 105 0 0 5).1 85 3)), (0, .ref 85), (1, .ref 14), (2, .int v2)], [.int 61, .ref 85], scp σ3 89 105 0 0 5)) 4 rfl rfl (conj_c (rfl) (conj_c (⟨Or.inl rfl, inB_in (by decide)⟩) (conj_c (rfl) (conj_c (cpB_ok (by decide) g4) (conj_c (rfl) (trivial)))))) ?_
  obtain ⟨r5, σ5, hc, h⟩ := bd_some h
  refine Rc.call (Ev.mono d) (v := none) (as := [.ref 85, .int 61]) (r := []) 5 rfl rfl rfl rfl ⟨rfl, Nat.le_of_ble_eq_true rfl⟩ (j_expect_85_ok (by omega) hc) ?_
  show Rc _ _ _ (85, [(3, .int ((scp σ3 89 105 0 0 5).1 85 3)), (0, .ref 85), (1, .ref 14), (2, .int v2)], [], σ5) _
  refine Rc.blk (c := []) (s2 := (87, [(3, .int ((scp σ3 89 105 0 0 5).1 85 3)), (0, .ref 85), (1, .ref 14), (2, .int v2)], [.int 0, .ref 85], σ5)) 6 rfl rfl (trivial) ?_
  obtain ⟨r6, σ6, hc, h⟩ := bd_some h
  refine Rc.call (Ev.mono d) (v := none) (as := [.ref 85, .int 0]) (r := []) 7 rfl rfl rfl rfl ⟨rfl, Nat.le_of_ble_eq_true rfl⟩ (j_readSum_85_top (by omega) hc) ?_
  show Rc _ _ _ (90, [(3, .int ((scp σ3 89 105 0 0 5).1 85 3)), (0, .ref 85), (1, .ref 14), (2, .int v2)], [], σ6) _
  obtain ⟨g7, h⟩ := gd_some h
  refine Rc.blk (c := [_, _, _, _]) (s2 := (108, [(3, .int ((scp σ3 89 105 0 0 5).1 85 3)), (0, .ref 85), (1, .ref 14), (2, .int v2)], [.int (-1), .ref 85], scp σ6 89 106 0 0 5)) 8 rfl rfl (conj_c (rfl) (conj_c (⟨Or.inl rfl, inB_in (by decide)⟩) (conj_c (rfl) (conj_c (cpB_ok (by decide) g7) (trivial))))) ?_
  obtain ⟨r8, σ8, hc, h⟩ := bd_some h
  refine Rc.call (Ev.mono d) (v := none) (as := [.ref 85, .int (-1)]) (r := []) 9 rfl rfl rfl rfl ⟨rfl, Nat.le_of_ble_eq_true rfl⟩ (j_expect_85_ok (by omega) hc) ?_
  show Rc _ _ _ (111, [(3, .int ((scp σ3 89 105 0 0 5).1 85 3)), (0, .ref 85), (1, .ref 14), (2, .int v2)], [], σ8) _
  refine Rc.blk (c := [_, _]) (s2 := (119, [(3, .int ((scp σ3 89 105 0 0 5).1 85 3)), (0, .ref 85), (1, .ref 14), (2, .int v2)], [.ref 106, .ref 105], σ8)) 10 rfl rfl (conj_c (rfl) (conj_c (rfl) (trivial))) ?_
  obtain ⟨r9, σ9, hc, h⟩ := bd_some h
  refine Rc.call (Ev.mono d) (v := some (.int r9)) (as := [.ref 105, .ref 106]) (r := []) 11 rfl rfl rfl rfl (Nat.le_of_ble_eq_true rfl) (j_same_105_106_ok (by omega) hc) ?_
  show Rc _ _ _ (122, [(3, .int ((scp σ3 89 105 0 0 5).1 85 3)), (0, .ref 85), (1, .ref 14), (2, .int v2)], [.int r9], σ9) _
  refine Rc.blk (c := []) (s2 := (if ¬ r9 = 0 then 130 else 125, [(3, .int ((scp σ3 89 105 0 0 5).1 85 3)), (0, .ref 85), (1, .ref 14), (2, .int v2)], [], σ9)) 12 rfl rfl (trivial) ?_
  by_cases c11 : r9 = 0
  · rw [if_pos c11] at h
    refine Rc.ifn (fun q => q c11) ?_
    refine Rc.blk (c := []) (s2 := (127, [(3, .int ((scp σ3 89 105 0 0 5).1 85 3)), (0, .ref 85), (1, .ref 14), (2, .int v2)], [.int ((scp σ3 89 105 0 0 5).1 85 3), .ref 85], σ9)) 13 rfl rfl (trivial) ?_
    obtain ⟨r10, σ10, hc, h⟩ := bd_some h
    refine Rc.call (Ev.mono d) (v := none) (as := [.ref 85, .int ((scp σ3 89 105 0 0 5).1 85 3)]) (r := []) 14 rfl rfl rfl rfl ⟨rfl, Nat.le_of_ble_eq_true rfl⟩ (j_markWrong_85_ok (by omega) hc) ?_
    show Rc _ _ _ (130, [(3, .int ((scp σ3 89 105 0 0 5).1 85 3)), (0, .ref 85), (1, .ref 14), (2, .int v2)], [], σ10) _
    refine Rc.pick [] (lv2 := []) rfl ?_
    exact j_read_85_14_b130_ok hd _ _ _ h
  · rw [if_neg c11] at h
    refine Rc.ifp c11 ?_
    refine Rc.pick [] (lv2 := []) rfl ?_
    exact j_read_85_14_b130_ok hd _ _ _ h
theorem j_wrong_0_b9_ok {d : Nat} (hd : 68 ≤ d) (σ : Sg) (r : Int32) (σ2 : Sg) (h : j_wrong_0_b9 σ = some (r, σ2)) : Rc none (Ev MT CT d) sg83 (9, [(0, .ref 0)], [], σ) (fun v s => v = some (.int r) ∧ s = σ2) := by
  unfold j_wrong_0_b9 at h
  refine Rc.blk (c := []) (s2 := (12, [(0, .ref 0)], [.int (-2), .ref 0], σ)) 2 rfl rfl (trivial) ?_
  obtain ⟨r1, σ1, hc, h⟩ := bd_some h
  refine Rc.call (Ev.mono d) (v := some (.int r1)) (as := [.ref 0, .int (-2)]) (r := []) 3 rfl rfl rfl rfl ⟨rfl, Nat.le_of_ble_eq_true rfl⟩ (j_refused_0_ok (by omega) hc) ?_
  show Rc _ _ _ (15, [(0, .ref 0)], [.int r1], σ1) _
  obtain ⟨rfl, rfl⟩ := some_pair h
  exact Rc.ret 4 rfl rfl rfl trivial ⟨rfl, rfl⟩
theorem j_wrong_0_b88_ok {d : Nat} (hd : 68 ≤ d) (s0 : Int32) (σ : Sg) (r : Int32) (σ2 : Sg) (h : j_wrong_0_b88 s0 σ = some (r, σ2)) : Rc none (Ev MT CT d) sg83 (88, [], [.int s0], σ) (fun v s => v = some (.int r) ∧ s = σ2) := by
  unfold j_wrong_0_b88 at h
  obtain ⟨rfl, rfl⟩ := some_pair h
  exact Rc.ret 22 rfl rfl rfl trivial ⟨rfl, rfl⟩
theorem j_wrong_0_ok {d : Nat} (hd : 69 ≤ d) {v1 : Int32} {σ : Sg} {r : Int32} {σ2 : Sg} (h : j_wrong_0 v1 σ = some (r, σ2)) : Ev MT CT d 83 [.ref 0, .int v1] σ (fun v s => v = some (.int r) ∧ s = σ2) := by
  obtain ⟨d, rfl⟩ : ∃ e, d = e + 1 := ⟨d - 1, by omega⟩
  refine ⟨Nat.le_of_ble_eq_true rfl, ?_⟩
  show Rc none (Ev MT CT d) sg83 (0, [(0, .ref 0), (1, .int v1)], [], σ) _
  unfold j_wrong_0 at h
  have hd : 68 ≤ d := by omega
  refine Rc.blk (c := []) (s2 := (if v1 < 0 then 9 else 4, [(0, .ref 0), (1, .int v1)], [], σ)) 0 rfl rfl (trivial) ?_
  by_cases c10 : v1 < 0
  · rw [if_pos c10] at h
    refine Rc.ifp c10 ?_
    refine Rc.pick [0] (lv2 := [(0, .ref 0)]) rfl ?_
    exact j_wrong_0_b9_ok hd _ _ _ h
  · rw [if_neg c10] at h
    refine Rc.ifn c10 ?_
    refine Rc.blk (c := []) (s2 := (if v1 ≤ 2 then 16 else 9, [(0, .ref 0), (1, .int v1)], [], σ)) 1 rfl rfl (trivial) ?_
    by_cases c9 : v1 ≤ 2
    · rw [if_pos c9] at h
      refine Rc.ifp c9 ?_
      refine Rc.blk (c := [_]) (s2 := (20, [(0, .ref 0), (1, .int v1)], [.ref 1], σ)) 5 rfl rfl (conj_c (rfl) (trivial)) ?_
      obtain ⟨r1, σ1, hc, h⟩ := bd_some h
      refine Rc.call (Ev.mono d) (v := some (.int r1)) (as := [.ref 1]) (r := []) 6 rfl rfl rfl rfl ⟨rfl, Nat.le_of_ble_eq_true rfl⟩ (j_hasFormula_1_ok (by omega) hc) ?_
      show Rc _ _ _ (23, [(0, .ref 0), (1, .int v1)], [.int r1], σ1) _
      refine Rc.blk (c := []) (s2 := (if ¬ r1 = 0 then 33 else 26, [(0, .ref 0), (1, .int v1)], [], σ1)) 7 rfl rfl (trivial) ?_
      by_cases c8 : r1 = 0
      · rw [if_pos c8] at h
        refine Rc.ifn (fun q => q c8) ?_
        refine Rc.blk (c := []) (s2 := (29, [(0, .ref 0), (1, .int v1)], [.int (-3), .ref 0], σ1)) 8 rfl rfl (trivial) ?_
        obtain ⟨r7, σ7, hc, h⟩ := bd_some h
        refine Rc.call (Ev.mono d) (v := some (.int r7)) (as := [.ref 0, .int (-3)]) (r := []) 9 rfl rfl rfl rfl ⟨rfl, Nat.le_of_ble_eq_true rfl⟩ (j_refused_0_ok (by omega) hc) ?_
        show Rc _ _ _ (32, [(0, .ref 0), (1, .int v1)], [.int r7], σ7) _
        obtain ⟨rfl, rfl⟩ := some_pair h
        exact Rc.ret 10 rfl rfl rfl trivial ⟨rfl, rfl⟩
      · rw [if_neg c8] at h
        refine Rc.ifp c8 ?_
        refine Rc.blk (c := [_, _, _, _, _]) (s2 := (51, [(0, .ref 0), (1, .int v1)], [.int (σ1.1 1 6), .ref 14, .ref 85], σ1)) 11 rfl rfl (conj_c (rfl) (conj_c (rfl) (conj_c (rfl) (conj_c (rfl) (conj_c (rfl) (trivial)))))) ?_
        obtain ⟨r2, σ2, hc, h⟩ := bd_some h
        refine Rc.call (Ev.mono d) (v := none) (as := [.ref 85, .ref 14, .int (σ1.1 1 6)]) (r := []) 12 rfl rfl rfl rfl ⟨rfl, Nat.le_of_ble_eq_true rfl⟩ (j_read_85_14_ok (by omega) hc) ?_
        show Rc _ _ _ (54, [(0, .ref 0), (1, .int v1)], [], σ2) _
        refine Rc.blk (c := []) (s2 := (if ¬ v1 = 0 then 66 else 58, [(0, .ref 0), (1, .int v1)], [], σ2)) 13 rfl rfl (trivial) ?_
        by_cases c6 : v1 = 0
        · rw [if_pos c6] at h
          refine Rc.ifn (fun q => q c6) ?_
          refine Rc.blk (c := [_]) (s2 := (62, [(0, .ref 0), (1, .int v1)], [.ref 85], σ2)) 14 rfl rfl (conj_c (rfl) (trivial)) ?_
          obtain ⟨r5, σ5, hc, h⟩ := bd_some h
          refine Rc.call (Ev.mono d) (v := some (.int r5)) (as := [.ref 85]) (r := []) 15 rfl rfl rfl rfl ⟨rfl, Nat.le_of_ble_eq_true rfl⟩ (j_firstWrong_85_ok (by omega) hc) ?_
          show Rc _ _ _ (65, [(0, .ref 0), (1, .int v1)], [.int r5], σ5) _
          obtain ⟨rfl, rfl⟩ := some_pair h
          exact Rc.ret 16 rfl rfl rfl trivial ⟨rfl, rfl⟩
        · rw [if_neg c6] at h
          refine Rc.ifp c6 ?_
          refine Rc.blk (c := []) (s2 := (if ¬ v1 = 1 then 81 else 71, [(0, .ref 0), (1, .int v1)], [], σ2)) 17 rfl rfl (trivial) ?_
          by_cases c4 : v1 = 1
          · rw [if_pos c4] at h
            refine Rc.ifn (fun q => q c4) ?_
            refine Rc.blk (c := [_]) (s2 := (75, [(0, .ref 0), (1, .int v1)], [.ref 85], σ2)) 18 rfl rfl (conj_c (rfl) (trivial)) ?_
            obtain ⟨r3, σ3, hc, h⟩ := bd_some h
            refine Rc.call (Ev.mono d) (v := some (.int r3)) (as := [.ref 85]) (r := []) 19 rfl rfl rfl rfl ⟨rfl, Nat.le_of_ble_eq_true rfl⟩ (j_countWrong_85_ok (by omega) hc) ?_
            show Rc _ _ _ (78, [(0, .ref 0), (1, .int v1)], [.int r3], σ3) _
            refine Rc.blk (c := []) (s2 := (88, [(0, .ref 0), (1, .int v1)], [.int r3], σ3)) 20 rfl rfl (trivial) ?_
            refine Rc.pick [] (lv2 := []) rfl ?_
            exact j_wrong_0_b88_ok hd _ _ _ _ h
          · rw [if_neg c4] at h
            refine Rc.ifp c4 ?_
            refine Rc.blk (c := [_, _]) (s2 := (88, [(0, .ref 0), (1, .int v1)], [.int (σ2.1 85 6)], σ2)) 21 rfl rfl (conj_c (rfl) (conj_c (rfl) (trivial))) ?_
            refine Rc.pick [] (lv2 := []) rfl ?_
            exact j_wrong_0_b88_ok hd _ _ _ _ h
    · rw [if_neg c9] at h
      refine Rc.ifn c9 ?_
      refine Rc.pick [0] (lv2 := [(0, .ref 0)]) rfl ?_
      exact j_wrong_0_b9_ok hd _ _ _ h
theorem j_lacks_85_ok {d : Nat} (hd : 1 ≤ d) {v1 : Int32} {σ : Sg} {r : Int32} {σ2 : Sg} (h : j_lacks_85 v1 σ = some (r, σ2)) : Ev MT CT d 35 [.ref 85, .int v1] σ (fun v s => v = some (.int r) ∧ s = σ2) := by
  obtain ⟨d, rfl⟩ : ∃ e, d = e + 1 := ⟨d - 1, by omega⟩
  refine ⟨Nat.le_of_ble_eq_true rfl, ?_⟩
  show Rc none (Ev MT CT d) sg35 (0, [(0, .ref 85), (1, .int v1)], [], σ) _
  unfold j_lacks_85 at h
  have hd : 0 ≤ d := by omega
  obtain ⟨g1, h⟩ := gd_some h
  obtain ⟨g2, h⟩ := gd_some h
  refine Rc.blk (c := [_, _, _, _]) (s2 := (13, [(0, .ref 85), (1, .int v1)], [.int ((σ.1 105 v1.toNatClampNeg) - (σ.1 106 v1.toNatClampNeg))], σ)) 0 rfl rfl (conj_c (rfl) (conj_c (⟨rfl, inB_in g1⟩) (conj_c (rfl) (conj_c (⟨rfl, inB_in g2⟩) (trivial))))) ?_
  obtain ⟨rfl, rfl⟩ := some_pair h
  exact Rc.ret 1 rfl rfl rfl trivial ⟨rfl, rfl⟩
theorem j_sides_0_b22_ok {d : Nat} (hd : 68 ≤ d) (σ : Sg) (r : Int32) (σ2 : Sg) (h : j_sides_0_b22 σ = some (r, σ2)) : Rc none (Ev MT CT d) sg84 (22, [(0, .ref 0)], [], σ) (fun v s => v = some (.int r) ∧ s = σ2) := by
  unfold j_sides_0_b22 at h
  refine Rc.blk (c := []) (s2 := (25, [(0, .ref 0)], [.int (-2), .ref 0], σ)) 8 rfl rfl (trivial) ?_
  obtain ⟨r1, σ1, hc, h⟩ := bd_some h
  refine Rc.call (Ev.mono d) (v := some (.int r1)) (as := [.ref 0, .int (-2)]) (r := []) 9 rfl rfl rfl rfl ⟨rfl, Nat.le_of_ble_eq_true rfl⟩ (j_refusedFar_0_ok (by omega) hc) ?_
  show Rc _ _ _ (28, [(0, .ref 0)], [.int r1], σ1) _
  obtain ⟨rfl, rfl⟩ := some_pair h
  exact Rc.ret 10 rfl rfl rfl trivial ⟨rfl, rfl⟩
theorem j_sides_0_b106_ok {d : Nat} (hd : 68 ≤ d) (s0 : Int32) (σ : Sg) (r : Int32) (σ2 : Sg) (h : j_sides_0_b106 s0 σ = some (r, σ2)) : Rc none (Ev MT CT d) sg84 (106, [], [.int s0], σ) (fun v s => v = some (.int r) ∧ s = σ2) := by
  unfold j_sides_0_b106 at h
  obtain ⟨rfl, rfl⟩ := some_pair h
  exact Rc.ret 26 rfl rfl rfl trivial ⟨rfl, rfl⟩
theorem j_sides_0_ok {d : Nat} (hd : 69 ≤ d) {v1 : Int32} {v2 : Int32} {σ : Sg} {r : Int32} {σ2 : Sg} (h : j_sides_0 v1 v2 σ = some (r, σ2)) : Ev MT CT d 84 [.ref 0, .int v1, .int v2] σ (fun v s => v = some (.int r) ∧ s = σ2) := by
  obtain ⟨d, rfl⟩ : ∃ e, d = e + 1 := ⟨d - 1, by omega⟩
  refine ⟨Nat.le_of_ble_eq_true rfl, ?_⟩
  show Rc none (Ev MT CT d) sg84 (0, [(0, .ref 0), (1, .int v1), (2, .int v2)], [], σ) _
  unfold j_sides_0 at h
  have hd : 68 ≤ d := by omega
  refine Rc.blk (c := []) (s2 := (1, [(0, .ref 0), (1, .int v1), (2, .int v2)], [.int v2], σ)) 0 rfl rfl (trivial) ?_
  obtain ⟨r1, σ1, hc, h⟩ := bd_some h
  refine Rc.call (Ev.mono d) (v := some (.int r1)) (as := [.int v2]) (r := []) 1 rfl rfl rfl rfl (Nat.le_of_ble_eq_true rfl) (j_isUnit_s_ok (by omega) hc) ?_
  show Rc _ _ _ (4, [(0, .ref 0), (1, .int v1), (2, .int v2)], [.int r1], σ1) _
  refine Rc.blk (c := []) (s2 := (if ¬ r1 = 0 then 13 else 7, [(0, .ref 0), (1, .int v1), (2, .int v2)], [], σ1)) 2 rfl rfl (trivial) ?_
  by_cases c14 : r1 = 0
  · rw [if_pos c14] at h
    refine Rc.ifn (fun q => q c14) ?_
    refine Rc.blk (c := []) (s2 := (9, [(0, .ref 0), (1, .int v1), (2, .int v2)], [.int (-1), .ref 0], σ1)) 3 rfl rfl (trivial) ?_
    obtain ⟨r13, σ13, hc, h⟩ := bd_some h
    refine Rc.call (Ev.mono d) (v := some (.int r13)) (as := [.ref 0, .int (-1)]) (r := []) 4 rfl rfl rfl rfl ⟨rfl, Nat.le_of_ble_eq_true rfl⟩ (j_refusedFar_0_ok (by omega) hc) ?_
    show Rc _ _ _ (12, [(0, .ref 0), (1, .int v1), (2, .int v2)], [.int r13], σ13) _
    obtain ⟨rfl, rfl⟩ := some_pair h
    exact Rc.ret 5 rfl rfl rfl trivial ⟨rfl, rfl⟩
  · rw [if_neg c14] at h
    refine Rc.ifp c14 ?_
    refine Rc.blk (c := []) (s2 := (if v1 < 0 then 22 else 17, [(0, .ref 0), (1, .int v1), (2, .int v2)], [], σ1)) 6 rfl rfl (trivial) ?_
    by_cases c12 : v1 < 0
    · rw [if_pos c12] at h
      refine Rc.ifp c12 ?_
      refine Rc.pick [0] (lv2 := [(0, .ref 0)]) rfl ?_
      exact j_sides_0_b22_ok hd _ _ _ h
    · rw [if_neg c12] at h
      refine Rc.ifn c12 ?_
      refine Rc.blk (c := []) (s2 := (if v1 ≤ 2 then 29 else 22, [(0, .ref 0), (1, .int v1), (2, .int v2)], [], σ1)) 7 rfl rfl (trivial) ?_
      by_cases c11 : v1 ≤ 2
      · rw [if_pos c11] at h
        refine Rc.ifp c11 ?_
        refine Rc.blk (c := [_]) (s2 := (33, [(0, .ref 0), (1, .int v1), (2, .int v2)], [.ref 1], σ1)) 11 rfl rfl (conj_c (rfl) (trivial)) ?_
        obtain ⟨r2, σ2, hc, h⟩ := bd_some h
        refine Rc.call (Ev.mono d) (v := some (.int r2)) (as := [.ref 1]) (r := []) 12 rfl rfl rfl rfl ⟨rfl, Nat.le_of_ble_eq_true rfl⟩ (j_hasFormula_1_ok (by omega) hc) ?_
        show Rc _ _ _ (36, [(0, .ref 0), (1, .int v1), (2, .int v2)], [.int r2], σ2) _
        refine Rc.blk (c := []) (s2 := (if ¬ r2 = 0 then 46 else 39, [(0, .ref 0), (1, .int v1), (2, .int v2)], [], σ2)) 13 rfl rfl (trivial) ?_
        by_cases c10 : r2 = 0
        · rw [if_pos c10] at h
          refine Rc.ifn (fun q => q c10) ?_
          refine Rc.blk (c := []) (s2 := (42, [(0, .ref 0), (1, .int v1), (2, .int v2)], [.int (-3), .ref 0], σ2)) 14 rfl rfl (trivial) ?_
          obtain ⟨r9, σ9, hc, h⟩ := bd_some h
          refine Rc.call (Ev.mono d) (v := some (.int r9)) (as := [.ref 0, .int (-3)]) (r := []) 15 rfl rfl rfl rfl ⟨rfl, Nat.le_of_ble_eq_true rfl⟩ (j_refusedFar_0_ok (by omega) hc) ?_
          show Rc _ _ _ (45, [(0, .ref 0), (1, .int v1), (2, .int v2)], [.int r9], σ9) _
          obtain ⟨rfl, rfl⟩ := some_pair h
          exact Rc.ret 16 rfl rfl rfl trivial ⟨rfl, rfl⟩
        · rw [if_neg c10] at h
          refine Rc.ifp c10 ?_
          refine Rc.blk (c := [_, _, _, _, _]) (s2 := (64, [(0, .ref 0), (1, .int v1), (2, .int v2)], [.int (σ2.1 1 6), .ref 14, .ref 85], σ2)) 17 rfl rfl (conj_c (rfl) (conj_c (rfl) (conj_c (rfl) (conj_c (rfl) (conj_c (rfl) (trivial)))))) ?_
          obtain ⟨r3, σ3, hc, h⟩ := bd_some h
          refine Rc.call (Ev.mono d) (v := none) (as := [.ref 85, .ref 14, .int (σ2.1 1 6)]) (r := []) 18 rfl rfl rfl rfl ⟨rfl, Nat.le_of_ble_eq_true rfl⟩ (j_read_85_14_ok (by omega) hc) ?_
          show Rc _ _ _ (67, [(0, .ref 0), (1, .int v1), (2, .int v2)], [], σ3) _
          refine Rc.blk (c := []) (s2 := (if ¬ v1 = 0 then 81 else 71, [(0, .ref 0), (1, .int v1), (2, .int v2)], [], σ3)) 19 rfl rfl (trivial) ?_
          by_cases c8 : v1 = 0
          · rw [if_pos c8] at h
            refine Rc.ifn (fun q => q c8) ?_
            obtain ⟨g7, h⟩ := gd_some h
            refine Rc.blk (c := [_, _, _]) (s2 := (80, [(0, .ref 0), (1, .int v1), (2, .int v2)], [.int (σ3.1 105 v2.toNatClampNeg)], σ3)) 20 rfl rfl (conj_c (rfl) (conj_c (rfl) (conj_c (⟨rfl, inB_in g7⟩) (trivial)))) ?_
            obtain ⟨rfl, rfl⟩ := some_pair h
            exact Rc.ret 21 rfl rfl rfl trivial ⟨rfl, rfl⟩
          · rw [if_neg c8] at h
            refine Rc.ifp c8 ?_
            refine Rc.blk (c := []) (s2 := (if ¬ v1 = 1 then 98 else 86, [(0, .ref 0), (1, .int v1), (2, .int v2)], [], σ3)) 22 rfl rfl (trivial) ?_
            by_cases c6 : v1 = 1
            · rw [if_pos c6] at h
              refine Rc.ifn (fun q => q c6) ?_
              obtain ⟨g5, h⟩ := gd_some h
              refine Rc.blk (c := [_, _, _]) (s2 := (106, [(0, .ref 0), (1, .int v1), (2, .int v2)], [.int (σ3.1 106 v2.toNatClampNeg)], σ3)) 23 rfl rfl (conj_c (rfl) (conj_c (rfl) (conj_c (⟨rfl, inB_in g5⟩) (trivial)))) ?_
              refine Rc.pick [] (lv2 := []) rfl ?_
              exact j_sides_0_b106_ok hd _ _ _ _ h
            · rw [if_neg c6] at h
              refine Rc.ifp c6 ?_
              refine Rc.blk (c := [_]) (s2 := (103, [(0, .ref 0), (1, .int v1), (2, .int v2)], [.int v2, .ref 85], σ3)) 24 rfl rfl (conj_c (rfl) (trivial)) ?_
              obtain ⟨r4, σ4, hc, h⟩ := bd_some h
              refine Rc.call (Ev.mono d) (v := some (.int r4)) (as := [.ref 85, .int v2]) (r := []) 25 rfl rfl rfl rfl ⟨rfl, Nat.le_of_ble_eq_true rfl⟩ (j_lacks_85_ok (by omega) hc) ?_
              show Rc _ _ _ (106, [(0, .ref 0), (1, .int v1), (2, .int v2)], [.int r4], σ4) _
              refine Rc.pick [] (lv2 := []) rfl ?_
              exact j_sides_0_b106_ok hd _ _ _ _ h
      · rw [if_neg c11] at h
        refine Rc.ifn c11 ?_
        refine Rc.pick [0] (lv2 := [(0, .ref 0)]) rfl ?_
        exact j_sides_0_b22_ok hd _ _ _ h
theorem j_mend_0_H52_ok {d : Nat} (hd : 68 ≤ d) {k52 : Int32 → Int32 → Sg → Option (Int32 × Sg)} (hk52 : ∀ (v1 : Int32) (v2 : Int32) (σ : Sg) (r : Int32) (σ2 : Sg), k52 v1 v2 σ = some (r, σ2) → Rc none (Ev MT CT d) sg85 (52, [(0, .ref 0), (1, .int v1), (2, .int v2)], [], σ) (fun v s => v = some (.int r) ∧ s = σ2)) (v1 : Int32) (v2 : Int32) (σ : Sg) (r : Int32) (σ2 : Sg) (h : j_mend_0_H52 k52 v1 v2 σ = some (r, σ2)) : Rc none (Ev MT CT d) sg85 (52, [(0, .ref 0), (1, .int v1), (2, .int v2)], [], σ) (fun v s => v = some (.int r) ∧ s = σ2) := by
  unfold j_mend_0_H52 at h
  refine Rc.blk (c := []) (s2 := (if 5 ≤ v2 then 77 else 57, [(0, .ref 0), (1, .int v1), (2, .int v2)], [], σ)) 13 rfl rfl (trivial) ?_
  by_cases c4 : 5 ≤ v2
  · rw [if_pos c4] at h
    refine Rc.ifp c4 ?_
    refine Rc.blk (c := [_, _]) (s2 := (86, [(0, .ref 0), (1, .int v1), (2, .int v2)], [.int v1, .ref 115, .ref 80], σ)) 17 rfl rfl (conj_c (rfl) (conj_c (rfl) (trivial))) ?_
    obtain ⟨r1, σ1, hc, h⟩ := bd_some h
    refine Rc.call (Ev.mono d) (v := some (.int r1)) (as := [.ref 80, .ref 115, .int v1]) (r := []) 18 rfl rfl rfl rfl ⟨rfl, Nat.le_of_ble_eq_true rfl⟩ (j_fewestAt_80_115_ok (by omega) hc) ?_
    show Rc _ _ _ (89, [(0, .ref 0), (1, .int v1), (2, .int v2)], [.int r1], σ1) _
    obtain ⟨rfl, rfl⟩ := some_pair h
    exact Rc.ret 19 rfl rfl rfl trivial ⟨rfl, rfl⟩
  · rw [if_neg c4] at h
    refine Rc.ifn c4 ?_
    refine Rc.blk (c := [_, _]) (s2 := (67, [(0, .ref 0), (1, .int v1), (2, .int v2)], [.int v2, .ref 85, .int v2, .ref 115], σ)) 14 rfl rfl (conj_c (rfl) (conj_c (rfl) (trivial))) ?_
    obtain ⟨r2, σ2, hc, h⟩ := bd_some h
    refine Rc.call (Ev.mono d) (v := some (.int r2)) (as := [.ref 85, .int v2]) (r := [.int v2, .ref 115]) 15 rfl rfl rfl rfl ⟨rfl, Nat.le_of_ble_eq_true rfl⟩ (j_lacks_85_ok (by omega) hc) ?_
    show Rc _ _ _ (70, [(0, .ref 0), (1, .int v1), (2, .int v2)], [.int r2, .int v2, .ref 115], σ2) _
    obtain ⟨g3, h⟩ := gd_some h
    refine Rc.blk (c := [_]) (s2 := (52, [(2, .int (v2 + 1)), (0, .ref 0), (1, .int v1)], [], si σ2 115 v2.toNatClampNeg r2)) 16 rfl rfl (conj_c (⟨rfl, inB_in g3⟩) (trivial)) ?_
    refine Rc.pick [1, 2, 0] (lv2 := [(0, .ref 0), (1, .int v1), (2, .int (v2 + 1))]) rfl ?_
    exact hk52 _ _ _ _ _ h
theorem j_mend_0_L52_ok {d : Nat} (hd : 68 ≤ d) : ∀ (n : Nat) (v1 : Int32) (v2 : Int32) (σ : Sg) (r : Int32) (σ2 : Sg), j_mend_0_L52 n v1 v2 σ = some (r, σ2) → Rc none (Ev MT CT d) sg85 (52, [(0, .ref 0), (1, .int v1), (2, .int v2)], [], σ) (fun v s => v = some (.int r) ∧ s = σ2)
  | 0, _, _, _, _, _, h => by cases h
  | n + 1, v1, v2, σ, r, σ2, h => j_mend_0_H52_ok hd (j_mend_0_L52_ok hd n) v1 v2 σ r σ2 h
theorem j_mend_0_ok {d : Nat} (hd : 69 ≤ d) {v1 : Int32} {σ : Sg} {r : Int32} {σ2 : Sg} (h : j_mend_0 v1 σ = some (r, σ2)) : Ev MT CT d 85 [.ref 0, .int v1] σ (fun v s => v = some (.int r) ∧ s = σ2) := by
  obtain ⟨d, rfl⟩ : ∃ e, d = e + 1 := ⟨d - 1, by omega⟩
  refine ⟨Nat.le_of_ble_eq_true rfl, ?_⟩
  show Rc none (Ev MT CT d) sg85 (0, [(0, .ref 0), (1, .int v1)], [], σ) _
  unfold j_mend_0 at h
  have hd : 68 ≤ d := by omega
  refine Rc.blk (c := []) (s2 := (if (-1) ≤ v1 then 12 else 5, [(0, .ref 0), (1, .int v1)], [], σ)) 0 rfl rfl (trivial) ?_
  by_cases c6 : (-1) ≤ v1
  · rw [if_pos c6] at h
    refine Rc.ifp c6 ?_
    refine Rc.blk (c := [_]) (s2 := (16, [(0, .ref 0), (1, .int v1)], [.ref 1], σ)) 4 rfl rfl (conj_c (rfl) (trivial)) ?_
    obtain ⟨r1, σ1, hc, h⟩ := bd_some h
    refine Rc.call (Ev.mono d) (v := some (.int r1)) (as := [.ref 1]) (r := []) 5 rfl rfl rfl rfl ⟨rfl, Nat.le_of_ble_eq_true rfl⟩ (j_hasFormula_1_ok (by omega) hc) ?_
    show Rc _ _ _ (19, [(0, .ref 0), (1, .int v1)], [.int r1], σ1) _
    refine Rc.blk (c := []) (s2 := (if ¬ r1 = 0 then 29 else 22, [(0, .ref 0), (1, .int v1)], [], σ1)) 6 rfl rfl (trivial) ?_
    by_cases c4 : r1 = 0
    · rw [if_pos c4] at h
      refine Rc.ifn (fun q => q c4) ?_
      refine Rc.blk (c := []) (s2 := (25, [(0, .ref 0), (1, .int v1)], [.int (-3), .ref 0], σ1)) 7 rfl rfl (trivial) ?_
      obtain ⟨r3, σ3, hc, h⟩ := bd_some h
      refine Rc.call (Ev.mono d) (v := some (.int r3)) (as := [.ref 0, .int (-3)]) (r := []) 8 rfl rfl rfl rfl ⟨rfl, Nat.le_of_ble_eq_true rfl⟩ (j_refused_0_ok (by omega) hc) ?_
      show Rc _ _ _ (28, [(0, .ref 0), (1, .int v1)], [.int r3], σ3) _
      obtain ⟨rfl, rfl⟩ := some_pair h
      exact Rc.ret 9 rfl rfl rfl trivial ⟨rfl, rfl⟩
    · rw [if_neg c4] at h
      refine Rc.ifp c4 ?_
      refine Rc.blk (c := [_, _, _, _, _]) (s2 := (47, [(0, .ref 0), (1, .int v1)], [.int (σ1.1 1 6), .ref 14, .ref 85], σ1)) 10 rfl rfl (conj_c (rfl) (conj_c (rfl) (conj_c (rfl) (conj_c (rfl) (conj_c (rfl) (trivial)))))) ?_
      obtain ⟨r2, σ2, hc, h⟩ := bd_some h
      refine Rc.call (Ev.mono d) (v := none) (as := [.ref 85, .ref 14, .int (σ1.1 1 6)]) (r := []) 11 rfl rfl rfl rfl ⟨rfl, Nat.le_of_ble_eq_true rfl⟩ (j_read_85_14_ok (by omega) hc) ?_
      show Rc _ _ _ (50, [(0, .ref 0), (1, .int v1)], [], σ2) _
      refine Rc.blk (c := []) (s2 := (52, [(2, .int 0), (0, .ref 0), (1, .int v1)], [], σ2)) 12 rfl rfl (trivial) ?_
      refine Rc.pick [1, 2, 0] (lv2 := [(0, .ref 0), (1, .int v1), (2, .int 0)]) rfl ?_
      exact j_mend_0_L52_ok hd fu _ _ _ _ _ h
  · rw [if_neg c6] at h
    refine Rc.ifn c6 ?_
    refine Rc.blk (c := []) (s2 := (8, [(0, .ref 0), (1, .int v1)], [.int (-4), .ref 0], σ)) 1 rfl rfl (trivial) ?_
    obtain ⟨r5, σ5, hc, h⟩ := bd_some h
    refine Rc.call (Ev.mono d) (v := some (.int r5)) (as := [.ref 0, .int (-4)]) (r := []) 2 rfl rfl rfl rfl ⟨rfl, Nat.le_of_ble_eq_true rfl⟩ (j_refused_0_ok (by omega) hc) ?_
    show Rc _ _ _ (11, [(0, .ref 0), (1, .int v1)], [.int r5], σ5) _
    obtain ⟨rfl, rfl⟩ := some_pair h
    exact Rc.ret 3 rfl rfl rfl trivial ⟨rfl, rfl⟩
theorem j_lots_0_b170_ok {d : Nat} (hd : 2 ≤ d) (s0 : Int32) (σ : Sg) (r : Int32) (σ2 : Sg) (h : j_lots_0_b170 s0 σ = some (r, σ2)) : Rc none (Ev MT CT d) sg86 (170, [], [.int s0], σ) (fun v s => v = some (.int r) ∧ s = σ2) := by
  unfold j_lots_0_b170 at h
  obtain ⟨rfl, rfl⟩ := some_pair h
  exact Rc.ret 29 rfl rfl rfl trivial ⟨rfl, rfl⟩
theorem j_lots_0_b134_ok {d : Nat} (hd : 2 ≤ d) {k53 : Int32 → Int32 → Int32 → Int32 → Int32 → Int32 → Sg → Option (Int32 × Sg)} (hk53 : ∀ (v1 : Int32) (v3 : Int32) (v4 : Int32) (v5 : Int32) (v6 : Int32) (v7 : Int32) (σ : Sg) (r : Int32) (σ2 : Sg), k53 v1 v3 v4 v5 v6 v7 σ = some (r, σ2) → Rc none (Ev MT CT d) sg86 (53, [(0, .ref 0), (1, .int v1), (3, .int v3), (4, .int v4), (5, .int v5), (6, .int v6), (7, .int v7)], [], σ) (fun v s => v = some (.int r) ∧ s = σ2)) (v1 : Int32) (v3 : Int32) (v5 : Int32) (v6 : Int32) (v7 : Int32) (s0 : Int32) (s1 : Int32) (σ : Sg) (r : Int32) (σ2 : Sg) (h : j_lots_0_b134 k53 v1 v3 v5 v6 v7 s0 s1 σ = some (r, σ2)) : Rc none (Ev MT CT d) sg86 (134, [(0, .ref 0), (1, .int v1), (3, .int v3), (5, .int v5), (6, .int v6), (7, .int v7)], [.int s1, .int s0], σ) (fun v s => v = some (.int r) ∧ s = σ2) := by
  unfold j_lots_0_b134 at h
  refine Rc.blk (c := [_, _]) (s2 := (147, [(4, .int (s0 + s1)), (0, .ref 0), (1, .int v1), (3, .int v3), (5, .int v5), (6, .int v6), (7, .int v7)], [.ref 114, .ref 51, .int v5], σ)) 23 rfl rfl (conj_c (rfl) (conj_c (rfl) (trivial))) ?_
  obtain ⟨r1, σ1, hc, h⟩ := bd_some h
  refine Rc.call (Ev.mono d) (v := some (.int r1)) (as := [.ref 51, .ref 114]) (r := [.int v5]) 24 rfl rfl rfl rfl ⟨rfl, Nat.le_of_ble_eq_true rfl⟩ (j_sizeOfDimension_51_114_ok (by omega) hc) ?_
  show Rc _ _ _ (150, [(4, .int (s0 + s1)), (0, .ref 0), (1, .int v1), (3, .int v3), (5, .int v5), (6, .int v6), (7, .int v7)], [.int r1, .int v5], σ1) _
  refine Rc.blk (c := []) (s2 := (53, [(7, .int (v7 + 1)), (5, .int (v5 + r1)), (4, .int (s0 + s1)), (0, .ref 0), (1, .int v1), (3, .int v3), (6, .int v6)], [], σ1)) 25 rfl rfl (trivial) ?_
  refine Rc.pick [3, 4, 5, 2, 1, 6, 0] (lv2 := [(0, .ref 0), (1, .int v1), (3, .int v3), (4, .int (s0 + s1)), (5, .int (v5 + r1)), (6, .int v6), (7, .int (v7 + 1))]) rfl ?_
  exact hk53 _ _ _ _ _ _ _ _ _ h
theorem j_lots_0_H62_ok {d : Nat} (hd : 2 ≤ d) {k53 : Int32 → Int32 → Int32 → Int32 → Int32 → Int32 → Sg → Option (Int32 × Sg)} {k62 : Int32 → Int32 → Int32 → Int32 → Int32 → Int32 → Int32 → Sg → Option (Int32 × Sg)} (hk53 : ∀ (v1 : Int32) (v3 : Int32) (v4 : Int32) (v5 : Int32) (v6 : Int32) (v7 : Int32) (σ : Sg) (r : Int32) (σ2 : Sg), k53 v1 v3 v4 v5 v6 v7 σ = some (r, σ2) → Rc none (Ev MT CT d) sg86 (53, [(0, .ref 0), (1, .int v1), (3, .int v3), (4, .int v4), (5, .int v5), (6, .int v6), (7, .int v7)], [], σ) (fun v s => v = some (.int r) ∧ s = σ2)) (hk62 : ∀ (v1 : Int32) (v3 : Int32) (v4 : Int32) (v5 : Int32) (v6 : Int32) (v7 : Int32) (v8 : Int32) (σ : Sg) (r : Int32) (σ2 : Sg), k62 v1 v3 v4 v5 v6 v7 v8 σ = some (r, σ2) → Rc none (Ev MT CT d) sg86 (62, [(0, .ref 0), (1, .int v1), (3, .int v3), (4, .int v4), (5, .int v5), (6, .int v6), (7, .int v7), (8, .int v8)], [], σ) (fun v s => v = some (.int r) ∧ s = σ2)) (v1 : Int32) (v3 : Int32) (v4 : Int32) (v5 : Int32) (v6 : Int32) (v7 : Int32) (v8 : Int32) (σ : Sg) (r : Int32) (σ2 : Sg) (h : j_lots_0_H62 k53 k62 v1 v3 v4 v5 v6 v7 v8 σ = some (r, σ2)) : Rc none (Ev MT CT d) sg86 (62, [(0, .ref 0), (1, .int v1), (3, .int v3), (4, .int v4), (5, .int v5), (6, .int v6), (7, .int v7), (8, .int v8)], [], σ) (fun v s => v = some (.int r) ∧ s = σ2) := by
  unfold j_lots_0_H62 at h
  refine Rc.blk (c := [_, _]) (s2 := (if (σ.1 1 0) ≤ v8 then 113 else 74, [(0, .ref 0), (1, .int v1), (3, .int v3), (4, .int v4), (5, .int v5), (6, .int v6), (7, .int v7), (8, .int v8)], [], σ)) 16 rfl rfl (conj_c (rfl) (conj_c (rfl) (trivial))) ?_
  by_cases c4 : (σ.1 1 0) ≤ v8
  · rw [if_pos c4] at h
    refine Rc.ifp c4 ?_
    refine Rc.blk (c := [_, _]) (s2 := (123, [(0, .ref 0), (1, .int v1), (3, .int v3), (4, .int v4), (5, .int v5), (6, .int v6), (7, .int v7), (8, .int v8)], [.ref 114, .ref 51, .int v4], σ)) 18 rfl rfl (conj_c (rfl) (conj_c (rfl) (trivial))) ?_
    obtain ⟨r1, σ1, hc, h⟩ := bd_some h
    refine Rc.call (Ev.mono d) (v := some (.int r1)) (as := [.ref 51, .ref 114]) (r := [.int v4]) 19 rfl rfl rfl rfl ⟨rfl, Nat.le_of_ble_eq_true rfl⟩ (j_isPureProduct_51_114_ok (by omega) hc) ?_
    show Rc _ _ _ (126, [(0, .ref 0), (1, .int v1), (3, .int v3), (4, .int v4), (5, .int v5), (6, .int v6), (7, .int v7), (8, .int v8)], [.int r1, .int v4], σ1) _
    refine Rc.blk (c := []) (s2 := (if r1 = 0 then 133 else 129, [(0, .ref 0), (1, .int v1), (3, .int v3), (4, .int v4), (5, .int v5), (6, .int v6), (7, .int v7), (8, .int v8)], [.int v4], σ1)) 20 rfl rfl (trivial) ?_
    by_cases c2 : r1 = 0
    · rw [if_pos c2] at h
      refine Rc.ifp c2 ?_
      refine Rc.blk (c := []) (s2 := (134, [(0, .ref 0), (1, .int v1), (3, .int v3), (4, .int v4), (5, .int v5), (6, .int v6), (7, .int v7), (8, .int v8)], [.int 0, .int v4], σ1)) 22 rfl rfl (trivial) ?_
      refine Rc.pick [0, 1, 2, 4, 5, 6] (lv2 := [(0, .ref 0), (1, .int v1), (3, .int v3), (5, .int v5), (6, .int v6), (7, .int v7)]) rfl ?_
      exact j_lots_0_b134_ok hd hk53 _ _ _ _ _ _ _ _ _ _ h
    · rw [if_neg c2] at h
      refine Rc.ifn c2 ?_
      refine Rc.blk (c := []) (s2 := (134, [(0, .ref 0), (1, .int v1), (3, .int v3), (4, .int v4), (5, .int v5), (6, .int v6), (7, .int v7), (8, .int v8)], [.int 1, .int v4], σ1)) 21 rfl rfl (trivial) ?_
      refine Rc.pick [0, 1, 2, 4, 5, 6] (lv2 := [(0, .ref 0), (1, .int v1), (3, .int v3), (5, .int v5), (6, .int v6), (7, .int v7)]) rfl ?_
      exact j_lots_0_b134_ok hd hk53 _ _ _ _ _ _ _ _ _ _ h
  · rw [if_neg c4] at h
    refine Rc.ifn c4 ?_
    obtain ⟨g3, h⟩ := gd_some h
    refine Rc.blk (c := [_, _, _, _]) (s2 := (62, [(8, .int (v8 + 1)), (6, .int ((v6 * 1664525) + 1013904223)), (0, .ref 0), (1, .int v1), (3, .int v3), (4, .int v4), (5, .int v5), (7, .int v7)], [], si σ 114 v8.toNatClampNeg ((irm ((((v6 * 1664525) + 1013904223) &&& 2147483647) / 256) 5) - 2))) 17 rfl rfl (conj_c (rfl) (conj_c ((by decide)) (conj_c ((by decide)) (conj_c (⟨rfl, inB_in g3⟩) (trivial))))) ?_
    refine Rc.pick [2, 3, 4, 5, 6, 1, 7, 0] (lv2 := [(0, .ref 0), (1, .int v1), (3, .int v3), (4, .int v4), (5, .int v5), (6, .int ((v6 * 1664525) + 1013904223)), (7, .int v7), (8, .int (v8 + 1))]) rfl ?_
    exact hk62 _ _ _ _ _ _ _ _ _ _ h
theorem j_lots_0_L62_ok {d : Nat} (hd : 2 ≤ d) {k53 : Int32 → Int32 → Int32 → Int32 → Int32 → Int32 → Sg → Option (Int32 × Sg)} (hk53 : ∀ (v1 : Int32) (v3 : Int32) (v4 : Int32) (v5 : Int32) (v6 : Int32) (v7 : Int32) (σ : Sg) (r : Int32) (σ2 : Sg), k53 v1 v3 v4 v5 v6 v7 σ = some (r, σ2) → Rc none (Ev MT CT d) sg86 (53, [(0, .ref 0), (1, .int v1), (3, .int v3), (4, .int v4), (5, .int v5), (6, .int v6), (7, .int v7)], [], σ) (fun v s => v = some (.int r) ∧ s = σ2)) : ∀ (n : Nat) (v1 : Int32) (v3 : Int32) (v4 : Int32) (v5 : Int32) (v6 : Int32) (v7 : Int32) (v8 : Int32) (σ : Sg) (r : Int32) (σ2 : Sg), j_lots_0_L62 k53 n v1 v3 v4 v5 v6 v7 v8 σ = some (r, σ2) → Rc none (Ev MT CT d) sg86 (62, [(0, .ref 0), (1, .int v1), (3, .int v3), (4, .int v4), (5, .int v5), (6, .int v6), (7, .int v7), (8, .int v8)], [], σ) (fun v s => v = some (.int r) ∧ s = σ2)
  | 0, _, _, _, _, _, _, _, _, _, _, h => by cases h
  | n + 1, v1, v3, v4, v5, v6, v7, v8, σ, r, σ2, h => j_lots_0_H62_ok hd hk53 (j_lots_0_L62_ok hd hk53 n) v1 v3 v4 v5 v6 v7 v8 σ r σ2 h
theorem j_lots_0_H53_ok {d : Nat} (hd : 2 ≤ d) {k53 : Int32 → Int32 → Int32 → Int32 → Int32 → Int32 → Sg → Option (Int32 × Sg)} (hk53 : ∀ (v1 : Int32) (v3 : Int32) (v4 : Int32) (v5 : Int32) (v6 : Int32) (v7 : Int32) (σ : Sg) (r : Int32) (σ2 : Sg), k53 v1 v3 v4 v5 v6 v7 σ = some (r, σ2) → Rc none (Ev MT CT d) sg86 (53, [(0, .ref 0), (1, .int v1), (3, .int v3), (4, .int v4), (5, .int v5), (6, .int v6), (7, .int v7)], [], σ) (fun v s => v = some (.int r) ∧ s = σ2)) (v1 : Int32) (v3 : Int32) (v4 : Int32) (v5 : Int32) (v6 : Int32) (v7 : Int32) (σ : Sg) (r : Int32) (σ2 : Sg) (h : j_lots_0_H53 k53 v1 v3 v4 v5 v6 v7 σ = some (r, σ2)) : Rc none (Ev MT CT d) sg86 (53, [(0, .ref 0), (1, .int v1), (3, .int v3), (4, .int v4), (5, .int v5), (6, .int v6), (7, .int v7)], [], σ) (fun v s => v = some (.int r) ∧ s = σ2) := by
  unfold j_lots_0_H53 at h
  refine Rc.blk (c := []) (s2 := (if v1 ≤ v7 then 159 else 59, [(0, .ref 0), (1, .int v1), (3, .int v3), (4, .int v4), (5, .int v5), (6, .int v6), (7, .int v7)], [], σ)) 14 rfl rfl (trivial) ?_
  by_cases c2 : v1 ≤ v7
  · rw [if_pos c2] at h
    refine Rc.ifp c2 ?_
    refine Rc.blk (c := []) (s2 := (if ¬ v3 = 0 then 168 else 163, [(0, .ref 0), (1, .int v1), (3, .int v3), (4, .int v4), (5, .int v5), (6, .int v6), (7, .int v7)], [], σ)) 26 rfl rfl (trivial) ?_
    by_cases c1 : v3 = 0
    · rw [if_pos c1] at h
      refine Rc.ifn (fun q => q c1) ?_
      refine Rc.blk (c := []) (s2 := (170, [(0, .ref 0), (1, .int v1), (3, .int v3), (4, .int v4), (5, .int v5), (6, .int v6), (7, .int v7)], [.int v4], σ)) 27 rfl rfl (trivial) ?_
      refine Rc.pick [] (lv2 := []) rfl ?_
      exact j_lots_0_b170_ok hd _ _ _ _ h
    · rw [if_neg c1] at h
      refine Rc.ifp c1 ?_
      refine Rc.blk (c := []) (s2 := (170, [(0, .ref 0), (1, .int v1), (3, .int v3), (4, .int v4), (5, .int v5), (6, .int v6), (7, .int v7)], [.int v5], σ)) 28 rfl rfl (trivial) ?_
      refine Rc.pick [] (lv2 := []) rfl ?_
      exact j_lots_0_b170_ok hd _ _ _ _ h
  · rw [if_neg c2] at h
    refine Rc.ifn c2 ?_
    refine Rc.blk (c := []) (s2 := (62, [(8, .int 0), (0, .ref 0), (1, .int v1), (3, .int v3), (4, .int v4), (5, .int v5), (6, .int v6), (7, .int v7)], [], σ)) 15 rfl rfl (trivial) ?_
    refine Rc.pick [1, 2, 3, 4, 5, 6, 7, 0] (lv2 := [(0, .ref 0), (1, .int v1), (3, .int v3), (4, .int v4), (5, .int v5), (6, .int v6), (7, .int v7), (8, .int 0)]) rfl ?_
    exact j_lots_0_L62_ok hd hk53 fu _ _ _ _ _ _ _ _ _ _ h
theorem j_lots_0_L53_ok {d : Nat} (hd : 2 ≤ d) : ∀ (n : Nat) (v1 : Int32) (v3 : Int32) (v4 : Int32) (v5 : Int32) (v6 : Int32) (v7 : Int32) (σ : Sg) (r : Int32) (σ2 : Sg), j_lots_0_L53 n v1 v3 v4 v5 v6 v7 σ = some (r, σ2) → Rc none (Ev MT CT d) sg86 (53, [(0, .ref 0), (1, .int v1), (3, .int v3), (4, .int v4), (5, .int v5), (6, .int v6), (7, .int v7)], [], σ) (fun v s => v = some (.int r) ∧ s = σ2)
  | 0, _, _, _, _, _, _, _, _, _, h => by cases h
  | n + 1, v1, v3, v4, v5, v6, v7, σ, r, σ2, h => j_lots_0_H53_ok hd (j_lots_0_L53_ok hd n) v1 v3 v4 v5 v6 v7 σ r σ2 h
theorem j_lots_0_b41_ok {d : Nat} (hd : 2 ≤ d) (v1 : Int32) (v2 : Int32) (v3 : Int32) (σ : Sg) (r : Int32) (σ2 : Sg) (h : j_lots_0_b41 v1 v2 v3 σ = some (r, σ2)) : Rc none (Ev MT CT d) sg86 (41, [(0, .ref 0), (1, .int v1), (2, .int v2), (3, .int v3)], [], σ) (fun v s => v = some (.int r) ∧ s = σ2) := by
  unfold j_lots_0_b41 at h
  refine Rc.blk (c := []) (s2 := (53, [(7, .int 0), (6, .int v2), (5, .int 0), (4, .int 0), (0, .ref 0), (1, .int v1), (2, .int v2), (3, .int v3)], [], σ)) 13 rfl rfl (trivial) ?_
  refine Rc.pick [4, 5, 7, 3, 2, 1, 0] (lv2 := [(0, .ref 0), (1, .int v1), (3, .int v3), (4, .int 0), (5, .int 0), (6, .int v2), (7, .int 0)]) rfl ?_
  exact j_lots_0_L53_ok hd fu _ _ _ _ _ _ _ _ _ h
theorem j_lots_0_ok {d : Nat} (hd : 3 ≤ d) {v1 : Int32} {v2 : Int32} {v3 : Int32} {σ : Sg} {r : Int32} {σ2 : Sg} (h : j_lots_0 v1 v2 v3 σ = some (r, σ2)) : Ev MT CT d 86 [.ref 0, .int v1, .int v2, .int v3] σ (fun v s => v = some (.int r) ∧ s = σ2) := by
  obtain ⟨d, rfl⟩ : ∃ e, d = e + 1 := ⟨d - 1, by omega⟩
  refine ⟨Nat.le_of_ble_eq_true rfl, ?_⟩
  show Rc none (Ev MT CT d) sg86 (0, [(0, .ref 0), (1, .int v1), (2, .int v2), (3, .int v3)], [], σ) _
  unfold j_lots_0 at h
  have hd : 2 ≤ d := by omega
  refine Rc.blk (c := []) (s2 := (if 1 ≤ v1 then 12 else 5, [(0, .ref 0), (1, .int v1), (2, .int v2), (3, .int v3)], [], σ)) 0 rfl rfl (trivial) ?_
  by_cases c7 : 1 ≤ v1
  · rw [if_pos c7] at h
    refine Rc.ifp c7 ?_
    refine Rc.blk (c := []) (s2 := (if v1 ≤ 50 then 25 else 18, [(0, .ref 0), (1, .int v1), (2, .int v2), (3, .int v3)], [], σ)) 4 rfl rfl (trivial) ?_
    by_cases c5 : v1 ≤ 50
    · rw [if_pos c5] at h
      refine Rc.ifp c5 ?_
      refine Rc.blk (c := []) (s2 := (if v3 = 0 then 41 else 29, [(0, .ref 0), (1, .int v1), (2, .int v2), (3, .int v3)], [], σ)) 8 rfl rfl (trivial) ?_
      by_cases c3 : v3 = 0
      · rw [if_pos c3] at h
        refine Rc.ifp c3 ?_
        exact j_lots_0_b41_ok hd _ _ _ _ _ _ h
      · rw [if_neg c3] at h
        refine Rc.ifn c3 ?_
        refine Rc.blk (c := []) (s2 := (if v3 = 1 then 41 else 34, [(0, .ref 0), (1, .int v1), (2, .int v2), (3, .int v3)], [], σ)) 9 rfl rfl (trivial) ?_
        by_cases c2 : v3 = 1
        · rw [if_pos c2] at h
          refine Rc.ifp c2 ?_
          exact j_lots_0_b41_ok hd _ _ _ _ _ _ h
        · rw [if_neg c2] at h
          refine Rc.ifn c2 ?_
          refine Rc.blk (c := []) (s2 := (37, [(0, .ref 0), (1, .int v1), (2, .int v2), (3, .int v3)], [.int (-2), .ref 0], σ)) 10 rfl rfl (trivial) ?_
          obtain ⟨r1, σ1, hc, h⟩ := bd_some h
          refine Rc.call (Ev.mono d) (v := some (.int r1)) (as := [.ref 0, .int (-2)]) (r := []) 11 rfl rfl rfl rfl ⟨rfl, Nat.le_of_ble_eq_true rfl⟩ (j_refused_0_ok (by omega) hc) ?_
          show Rc _ _ _ (40, [(0, .ref 0), (1, .int v1), (2, .int v2), (3, .int v3)], [.int r1], σ1) _
          obtain ⟨rfl, rfl⟩ := some_pair h
          exact Rc.ret 12 rfl rfl rfl trivial ⟨rfl, rfl⟩
    · rw [if_neg c5] at h
      refine Rc.ifn c5 ?_
      refine Rc.blk (c := []) (s2 := (21, [(0, .ref 0), (1, .int v1), (2, .int v2), (3, .int v3)], [.int (-6), .ref 0], σ)) 5 rfl rfl (trivial) ?_
      obtain ⟨r4, σ4, hc, h⟩ := bd_some h
      refine Rc.call (Ev.mono d) (v := some (.int r4)) (as := [.ref 0, .int (-6)]) (r := []) 6 rfl rfl rfl rfl ⟨rfl, Nat.le_of_ble_eq_true rfl⟩ (j_refused_0_ok (by omega) hc) ?_
      show Rc _ _ _ (24, [(0, .ref 0), (1, .int v1), (2, .int v2), (3, .int v3)], [.int r4], σ4) _
      obtain ⟨rfl, rfl⟩ := some_pair h
      exact Rc.ret 7 rfl rfl rfl trivial ⟨rfl, rfl⟩
  · rw [if_neg c7] at h
    refine Rc.ifn c7 ?_
    refine Rc.blk (c := []) (s2 := (8, [(0, .ref 0), (1, .int v1), (2, .int v2), (3, .int v3)], [.int (-4), .ref 0], σ)) 1 rfl rfl (trivial) ?_
    obtain ⟨r6, σ6, hc, h⟩ := bd_some h
    refine Rc.call (Ev.mono d) (v := some (.int r6)) (as := [.ref 0, .int (-4)]) (r := []) 2 rfl rfl rfl rfl ⟨rfl, Nat.le_of_ble_eq_true rfl⟩ (j_refused_0_ok (by omega) hc) ?_
    show Rc _ _ _ (11, [(0, .ref 0), (1, .int v1), (2, .int v2), (3, .int v3)], [.int r6], σ6) _
    obtain ⟨rfl, rfl⟩ := some_pair h
    exact Rc.ret 3 rfl rfl rfl trivial ⟨rfl, rfl⟩
theorem j_list_0_ok {d : Nat} (hd : 2 ≤ d) {v1 : Int32} {v2 : Int32} {σ : Sg} {r : Int32} {σ2 : Sg} (h : j_list_0 v1 v2 σ = some (r, σ2)) : Ev MT CT d 87 [.ref 0, .int v1, .int v2] σ (fun v s => v = some (.int r) ∧ s = σ2) := by
  obtain ⟨d, rfl⟩ : ∃ e, d = e + 1 := ⟨d - 1, by omega⟩
  refine ⟨Nat.le_of_ble_eq_true rfl, ?_⟩
  show Rc none (Ev MT CT d) sg87 (0, [(0, .ref 0), (1, .int v1), (2, .int v2)], [], σ) _
  unfold j_list_0 at h
  have hd : 1 ≤ d := by omega
  refine Rc.blk (c := []) (s2 := (1, [(0, .ref 0), (1, .int v1), (2, .int v2)], [.int v1], σ)) 0 rfl rfl (trivial) ?_
  obtain ⟨r1, σ1, hc, h⟩ := bd_some h
  refine Rc.call (Ev.mono d) (v := some (.int r1)) (as := [.int v1]) (r := []) 1 rfl rfl rfl rfl (Nat.le_of_ble_eq_true rfl) (j_isList_s_ok (by omega) hc) ?_
  show Rc _ _ _ (4, [(0, .ref 0), (1, .int v1), (2, .int v2)], [.int r1], σ1) _
  refine Rc.blk (c := []) (s2 := (if ¬ r1 = 0 then 13 else 7, [(0, .ref 0), (1, .int v1), (2, .int v2)], [], σ1)) 2 rfl rfl (trivial) ?_
  by_cases c9 : r1 = 0
  · rw [if_pos c9] at h
    refine Rc.ifn (fun q => q c9) ?_
    refine Rc.blk (c := []) (s2 := (9, [(0, .ref 0), (1, .int v1), (2, .int v2)], [.int (-1), .ref 0], σ1)) 3 rfl rfl (trivial) ?_
    obtain ⟨r8, σ8, hc, h⟩ := bd_some h
    refine Rc.call (Ev.mono d) (v := some (.int r8)) (as := [.ref 0, .int (-1)]) (r := []) 4 rfl rfl rfl rfl ⟨rfl, Nat.le_of_ble_eq_true rfl⟩ (j_refused_0_ok (by omega) hc) ?_
    show Rc _ _ _ (12, [(0, .ref 0), (1, .int v1), (2, .int v2)], [.int r8], σ8) _
    obtain ⟨rfl, rfl⟩ := some_pair h
    exact Rc.ret 5 rfl rfl rfl trivial ⟨rfl, rfl⟩
  · rw [if_neg c9] at h
    refine Rc.ifp c9 ?_
    refine Rc.blk (c := []) (s2 := (if v2 ≤ 40 then 26 else 19, [(0, .ref 0), (1, .int v1), (2, .int v2)], [], σ1)) 6 rfl rfl (trivial) ?_
    by_cases c7 : v2 ≤ 40
    · rw [if_pos c7] at h
      refine Rc.ifp c7 ?_
      refine Rc.blk (c := []) (s2 := (if 0 ≤ v2 then 33 else 30, [(0, .ref 0), (1, .int v1), (2, .int v2)], [], σ1)) 10 rfl rfl (trivial) ?_
      by_cases c5 : 0 ≤ v2
      · rw [if_pos c5] at h
        refine Rc.ifp c5 ?_
        obtain ⟨g2, h⟩ := gd_some h
        refine Rc.blk (c := [_, _]) (s2 := (40, [(0, .ref 0), (1, .int v1), (2, .int v2)], [.int 0, .ref (108 + 1 + v1.toNatClampNeg)], σ1)) 13 rfl rfl (conj_c (rfl) (conj_c (⟨Or.inl rfl, inB_in g2⟩) (trivial))) ?_
        obtain ⟨r3, σ3, hc, h⟩ := bd_some h
        refine Rc.call (Ev.mono d) (v := none) (as := [.ref (108 + 1 + v1.toNatClampNeg), .int 0]) (r := []) 14 rfl rfl rfl rfl (Nat.le_of_ble_eq_true rfl) (j_fillAII_x_ok (by omega) hc) ?_
        show Rc _ _ _ (43, [(0, .ref 0), (1, .int v1), (2, .int v2)], [], σ3) _
        obtain ⟨g4, h⟩ := gd_some h
        refine Rc.blk (c := [_, _]) (s2 := (51, [(0, .ref 0), (1, .int v1), (2, .int v2)], [.int 1], si σ3 112 v1.toNatClampNeg v2)) 15 rfl rfl (conj_c (rfl) (conj_c (⟨rfl, inB_in g4⟩) (trivial))) ?_
        obtain ⟨rfl, rfl⟩ := some_pair h
        exact Rc.ret 16 rfl rfl rfl trivial ⟨rfl, rfl⟩
      · rw [if_neg c5] at h
        refine Rc.ifn c5 ?_
        refine Rc.blk (c := []) (s2 := (32, [(0, .ref 0), (1, .int v1), (2, .int v2)], [.int (-14)], σ1)) 11 rfl rfl (trivial) ?_
        obtain ⟨rfl, rfl⟩ := some_pair h
        exact Rc.ret 12 rfl rfl rfl trivial ⟨rfl, rfl⟩
    · rw [if_neg c7] at h
      refine Rc.ifn c7 ?_
      refine Rc.blk (c := []) (s2 := (22, [(0, .ref 0), (1, .int v1), (2, .int v2)], [.int (-6), .ref 0], σ1)) 7 rfl rfl (trivial) ?_
      obtain ⟨r6, σ6, hc, h⟩ := bd_some h
      refine Rc.call (Ev.mono d) (v := some (.int r6)) (as := [.ref 0, .int (-6)]) (r := []) 8 rfl rfl rfl rfl ⟨rfl, Nat.le_of_ble_eq_true rfl⟩ (j_refused_0_ok (by omega) hc) ?_
      show Rc _ _ _ (25, [(0, .ref 0), (1, .int v1), (2, .int v2)], [.int r6], σ6) _
      obtain ⟨rfl, rfl⟩ := some_pair h
      exact Rc.ret 9 rfl rfl rfl trivial ⟨rfl, rfl⟩
theorem j_put_0_ok {d : Nat} (hd : 2 ≤ d) {v1 : Int32} {v2 : Int32} {v3 : Int32} {σ : Sg} {r : Int32} {σ2 : Sg} (h : j_put_0 v1 v2 v3 σ = some (r, σ2)) : Ev MT CT d 88 [.ref 0, .int v1, .int v2, .int v3] σ (fun v s => v = some (.int r) ∧ s = σ2) := by
  obtain ⟨d, rfl⟩ : ∃ e, d = e + 1 := ⟨d - 1, by omega⟩
  refine ⟨Nat.le_of_ble_eq_true rfl, ?_⟩
  show Rc none (Ev MT CT d) sg88 (0, [(0, .ref 0), (1, .int v1), (2, .int v2), (3, .int v3)], [], σ) _
  unfold j_put_0 at h
  have hd : 1 ≤ d := by omega
  refine Rc.blk (c := []) (s2 := (1, [(0, .ref 0), (1, .int v1), (2, .int v2), (3, .int v3)], [.int v1], σ)) 0 rfl rfl (trivial) ?_
  obtain ⟨r1, σ1, hc, h⟩ := bd_some h
  refine Rc.call (Ev.mono d) (v := some (.int r1)) (as := [.int v1]) (r := []) 1 rfl rfl rfl rfl (Nat.le_of_ble_eq_true rfl) (j_isList_s_ok (by omega) hc) ?_
  show Rc _ _ _ (4, [(0, .ref 0), (1, .int v1), (2, .int v2), (3, .int v3)], [.int r1], σ1) _
  refine Rc.blk (c := []) (s2 := (if ¬ r1 = 0 then 13 else 7, [(0, .ref 0), (1, .int v1), (2, .int v2), (3, .int v3)], [], σ1)) 2 rfl rfl (trivial) ?_
  by_cases c9 : r1 = 0
  · rw [if_pos c9] at h
    refine Rc.ifn (fun q => q c9) ?_
    refine Rc.blk (c := []) (s2 := (9, [(0, .ref 0), (1, .int v1), (2, .int v2), (3, .int v3)], [.int (-1), .ref 0], σ1)) 3 rfl rfl (trivial) ?_
    obtain ⟨r8, σ8, hc, h⟩ := bd_some h
    refine Rc.call (Ev.mono d) (v := some (.int r8)) (as := [.ref 0, .int (-1)]) (r := []) 4 rfl rfl rfl rfl ⟨rfl, Nat.le_of_ble_eq_true rfl⟩ (j_refused_0_ok (by omega) hc) ?_
    show Rc _ _ _ (12, [(0, .ref 0), (1, .int v1), (2, .int v2), (3, .int v3)], [.int r8], σ8) _
    obtain ⟨rfl, rfl⟩ := some_pair h
    exact Rc.ret 5 rfl rfl rfl trivial ⟨rfl, rfl⟩
  · rw [if_neg c9] at h
    refine Rc.ifp c9 ?_
    refine Rc.blk (c := []) (s2 := (15, [(0, .ref 0), (1, .int v1), (2, .int v2), (3, .int v3)], [.int v1, .ref 0], σ1)) 6 rfl rfl (trivial) ?_
    obtain ⟨r2, σ2, hc, h⟩ := bd_some h
    refine Rc.call (Ev.mono d) (v := some (.int r2)) (as := [.ref 0, .int v1]) (r := []) 7 rfl rfl rfl rfl ⟨rfl, Nat.le_of_ble_eq_true rfl⟩ (j_isMissing_0_ok (by omega) hc) ?_
    show Rc _ _ _ (18, [(0, .ref 0), (1, .int v1), (2, .int v2), (3, .int v3)], [.int r2], σ2) _
    refine Rc.blk (c := []) (s2 := (if r2 = 0 then 24 else 21, [(0, .ref 0), (1, .int v1), (2, .int v2), (3, .int v3)], [], σ2)) 8 rfl rfl (trivial) ?_
    by_cases c7 : r2 = 0
    · rw [if_pos c7] at h
      refine Rc.ifp c7 ?_
      refine Rc.blk (c := []) (s2 := (27, [(0, .ref 0), (1, .int v1), (2, .int v2), (3, .int v3)], [.int v2, .int v1, .ref 0], σ2)) 11 rfl rfl (trivial) ?_
      obtain ⟨r3, σ3, hc, h⟩ := bd_some h
      refine Rc.call (Ev.mono d) (v := some (.int r3)) (as := [.ref 0, .int v1, .int v2]) (r := []) 12 rfl rfl rfl rfl ⟨rfl, Nat.le_of_ble_eq_true rfl⟩ (j_isPlace_0_ok (by omega) hc) ?_
      show Rc _ _ _ (30, [(0, .ref 0), (1, .int v1), (2, .int v2), (3, .int v3)], [.int r3], σ3) _
      refine Rc.blk (c := []) (s2 := (if ¬ r3 = 0 then 36 else 33, [(0, .ref 0), (1, .int v1), (2, .int v2), (3, .int v3)], [], σ3)) 13 rfl rfl (trivial) ?_
      by_cases c6 : r3 = 0
      · rw [if_pos c6] at h
        refine Rc.ifn (fun q => q c6) ?_
        refine Rc.blk (c := []) (s2 := (35, [(0, .ref 0), (1, .int v1), (2, .int v2), (3, .int v3)], [.int (-13)], σ3)) 14 rfl rfl (trivial) ?_
        obtain ⟨rfl, rfl⟩ := some_pair h
        exact Rc.ret 15 rfl rfl rfl trivial ⟨rfl, rfl⟩
      · rw [if_neg c6] at h
        refine Rc.ifp c6 ?_
        obtain ⟨g4, h⟩ := gd_some h
        obtain ⟨g5, h⟩ := gd_some h
        refine Rc.blk (c := [_, _, _]) (s2 := (46, [(0, .ref 0), (1, .int v1), (2, .int v2), (3, .int v3)], [.int 1], si σ3 (108 + 1 + v1.toNatClampNeg) v2.toNatClampNeg v3)) 16 rfl rfl (conj_c (rfl) (conj_c (⟨Or.inl rfl, inB_in g4⟩) (conj_c (arB_in g5) (trivial)))) ?_
        obtain ⟨rfl, rfl⟩ := some_pair h
        exact Rc.ret 17 rfl rfl rfl trivial ⟨rfl, rfl⟩
    · rw [if_neg c7] at h
      refine Rc.ifn c7 ?_
      refine Rc.blk (c := []) (s2 := (23, [(0, .ref 0), (1, .int v1), (2, .int v2), (3, .int v3)], [.int (-11)], σ2)) 9 rfl rfl (trivial) ?_
      obtain ⟨rfl, rfl⟩ := some_pair h
      exact Rc.ret 10 rfl rfl rfl trivial ⟨rfl, rfl⟩
theorem j_look_0_b54_ok {d : Nat} (hd : 2 ≤ d) (s0 : Int32) (σ : Sg) (r : Int32) (σ2 : Sg) (h : j_look_0_b54 s0 σ = some (r, σ2)) : Rc none (Ev MT CT d) sg89 (54, [], [.int s0], σ) (fun v s => v = some (.int r) ∧ s = σ2) := by
  unfold j_look_0_b54 at h
  obtain ⟨rfl, rfl⟩ := some_pair h
  exact Rc.ret 18 rfl rfl rfl trivial ⟨rfl, rfl⟩
theorem j_look_0_ok {d : Nat} (hd : 3 ≤ d) {v1 : Int32} {v2 : Int32} {σ : Sg} {r : Int32} {σ2 : Sg} (h : j_look_0 v1 v2 σ = some (r, σ2)) : Ev MT CT d 89 [.ref 0, .int v1, .int v2] σ (fun v s => v = some (.int r) ∧ s = σ2) := by
  obtain ⟨d, rfl⟩ : ∃ e, d = e + 1 := ⟨d - 1, by omega⟩
  refine ⟨Nat.le_of_ble_eq_true rfl, ?_⟩
  show Rc none (Ev MT CT d) sg89 (0, [(0, .ref 0), (1, .int v1), (2, .int v2)], [], σ) _
  unfold j_look_0 at h
  have hd : 2 ≤ d := by omega
  refine Rc.blk (c := []) (s2 := (1, [(0, .ref 0), (1, .int v1), (2, .int v2)], [.int v1], σ)) 0 rfl rfl (trivial) ?_
  obtain ⟨r1, σ1, hc, h⟩ := bd_some h
  refine Rc.call (Ev.mono d) (v := some (.int r1)) (as := [.int v1]) (r := []) 1 rfl rfl rfl rfl (Nat.le_of_ble_eq_true rfl) (j_isList_s_ok (by omega) hc) ?_
  show Rc _ _ _ (4, [(0, .ref 0), (1, .int v1), (2, .int v2)], [.int r1], σ1) _
  refine Rc.blk (c := []) (s2 := (if ¬ r1 = 0 then 13 else 7, [(0, .ref 0), (1, .int v1), (2, .int v2)], [], σ1)) 2 rfl rfl (trivial) ?_
  by_cases c11 : r1 = 0
  · rw [if_pos c11] at h
    refine Rc.ifn (fun q => q c11) ?_
    refine Rc.blk (c := []) (s2 := (9, [(0, .ref 0), (1, .int v1), (2, .int v2)], [.int (-1), .ref 0], σ1)) 3 rfl rfl (trivial) ?_
    obtain ⟨r10, σ10, hc, h⟩ := bd_some h
    refine Rc.call (Ev.mono d) (v := some (.int r10)) (as := [.ref 0, .int (-1)]) (r := []) 4 rfl rfl rfl rfl ⟨rfl, Nat.le_of_ble_eq_true rfl⟩ (j_refusedFar_0_ok (by omega) hc) ?_
    show Rc _ _ _ (12, [(0, .ref 0), (1, .int v1), (2, .int v2)], [.int r10], σ10) _
    obtain ⟨rfl, rfl⟩ := some_pair h
    exact Rc.ret 5 rfl rfl rfl trivial ⟨rfl, rfl⟩
  · rw [if_neg c11] at h
    refine Rc.ifp c11 ?_
    refine Rc.blk (c := []) (s2 := (15, [(0, .ref 0), (1, .int v1), (2, .int v2)], [.int v1, .ref 0], σ1)) 6 rfl rfl (trivial) ?_
    obtain ⟨r2, σ2, hc, h⟩ := bd_some h
    refine Rc.call (Ev.mono d) (v := some (.int r2)) (as := [.ref 0, .int v1]) (r := []) 7 rfl rfl rfl rfl ⟨rfl, Nat.le_of_ble_eq_true rfl⟩ (j_isMissing_0_ok (by omega) hc) ?_
    show Rc _ _ _ (18, [(0, .ref 0), (1, .int v1), (2, .int v2)], [.int r2], σ2) _
    refine Rc.blk (c := []) (s2 := (if r2 = 0 then 28 else 21, [(0, .ref 0), (1, .int v1), (2, .int v2)], [], σ2)) 8 rfl rfl (trivial) ?_
    by_cases c9 : r2 = 0
    · rw [if_pos c9] at h
      refine Rc.ifp c9 ?_
      refine Rc.blk (c := []) (s2 := (31, [(0, .ref 0), (1, .int v1), (2, .int v2)], [.int v2, .int v1, .ref 0], σ2)) 12 rfl rfl (trivial) ?_
      obtain ⟨r3, σ3, hc, h⟩ := bd_some h
      refine Rc.call (Ev.mono d) (v := some (.int r3)) (as := [.ref 0, .int v1, .int v2]) (r := []) 13 rfl rfl rfl rfl ⟨rfl, Nat.le_of_ble_eq_true rfl⟩ (j_isPlace_0_ok (by omega) hc) ?_
      show Rc _ _ _ (34, [(0, .ref 0), (1, .int v1), (2, .int v2)], [.int r3], σ3) _
      refine Rc.blk (c := []) (s2 := (if r3 = 0 then 48 else 37, [(0, .ref 0), (1, .int v1), (2, .int v2)], [], σ3)) 14 rfl rfl (trivial) ?_
      by_cases c7 : r3 = 0
      · rw [if_pos c7] at h
        refine Rc.ifp c7 ?_
        refine Rc.blk (c := []) (s2 := (51, [(0, .ref 0), (1, .int v1), (2, .int v2)], [.int (-13), .ref 0], σ3)) 16 rfl rfl (trivial) ?_
        obtain ⟨r4, σ4, hc, h⟩ := bd_some h
        refine Rc.call (Ev.mono d) (v := some (.int r4)) (as := [.ref 0, .int (-13)]) (r := []) 17 rfl rfl rfl rfl ⟨rfl, Nat.le_of_ble_eq_true rfl⟩ (j_refusedFar_0_ok (by omega) hc) ?_
        show Rc _ _ _ (54, [(0, .ref 0), (1, .int v1), (2, .int v2)], [.int r4], σ4) _
        refine Rc.pick [] (lv2 := []) rfl ?_
        exact j_look_0_b54_ok hd _ _ _ _ h
      · rw [if_neg c7] at h
        refine Rc.ifn c7 ?_
        obtain ⟨g5, h⟩ := gd_some h
        obtain ⟨g6, h⟩ := gd_some h
        refine Rc.blk (c := [_, _, _]) (s2 := (54, [(0, .ref 0), (1, .int v1), (2, .int v2)], [.int (σ3.1 (108 + 1 + v1.toNatClampNeg) v2.toNatClampNeg)], σ3)) 15 rfl rfl (conj_c (rfl) (conj_c (⟨Or.inl rfl, inB_in g5⟩) (conj_c (arB_in g6) (trivial)))) ?_
        refine Rc.pick [] (lv2 := []) rfl ?_
        exact j_look_0_b54_ok hd _ _ _ _ h
    · rw [if_neg c9] at h
      refine Rc.ifn c9 ?_
      refine Rc.blk (c := []) (s2 := (24, [(0, .ref 0), (1, .int v1), (2, .int v2)], [.int (-11), .ref 0], σ2)) 9 rfl rfl (trivial) ?_
      obtain ⟨r8, σ8, hc, h⟩ := bd_some h
      refine Rc.call (Ev.mono d) (v := some (.int r8)) (as := [.ref 0, .int (-11)]) (r := []) 10 rfl rfl rfl rfl ⟨rfl, Nat.le_of_ble_eq_true rfl⟩ (j_refusedFar_0_ok (by omega) hc) ?_
      show Rc _ _ _ (27, [(0, .ref 0), (1, .int v1), (2, .int v2)], [.int r8], σ8) _
      obtain ⟨rfl, rfl⟩ := some_pair h
      exact Rc.ret 11 rfl rfl rfl trivial ⟨rfl, rfl⟩
theorem j_lays_0_b15_ok {d : Nat} (hd : 2 ≤ d) (σ : Sg) (r : Int32) (σ2 : Sg) (h : j_lays_0_b15 σ = some (r, σ2)) : Rc none (Ev MT CT d) sg90 (15, [(0, .ref 0)], [], σ) (fun v s => v = some (.int r) ∧ s = σ2) := by
  unfold j_lays_0_b15 at h
  refine Rc.blk (c := []) (s2 := (17, [(0, .ref 0)], [.int (-1), .ref 0], σ)) 6 rfl rfl (trivial) ?_
  obtain ⟨r1, σ1, hc, h⟩ := bd_some h
  refine Rc.call (Ev.mono d) (v := some (.int r1)) (as := [.ref 0, .int (-1)]) (r := []) 7 rfl rfl rfl rfl ⟨rfl, Nat.le_of_ble_eq_true rfl⟩ (j_refused_0_ok (by omega) hc) ?_
  show Rc _ _ _ (20, [(0, .ref 0)], [.int r1], σ1) _
  obtain ⟨rfl, rfl⟩ := some_pair h
  exact Rc.ret 8 rfl rfl rfl trivial ⟨rfl, rfl⟩
theorem j_lays_0_b54_ok {d : Nat} (hd : 2 ≤ d) (σ : Sg) (r : Int32) (σ2 : Sg) (h : j_lays_0_b54 σ = some (r, σ2)) : Rc none (Ev MT CT d) sg90 (54, [], [], σ) (fun v s => v = some (.int r) ∧ s = σ2) := by
  unfold j_lays_0_b54 at h
  refine Rc.blk (c := []) (s2 := (56, [], [.int (-13)], σ)) 16 rfl rfl (trivial) ?_
  obtain ⟨rfl, rfl⟩ := some_pair h
  exact Rc.ret 17 rfl rfl rfl trivial ⟨rfl, rfl⟩
theorem j_lays_0_ok {d : Nat} (hd : 3 ≤ d) {v1 : Int32} {v2 : Int32} {v3 : Int32} {σ : Sg} {r : Int32} {σ2 : Sg} (h : j_lays_0 v1 v2 v3 σ = some (r, σ2)) : Ev MT CT d 90 [.ref 0, .int v1, .int v2, .int v3] σ (fun v s => v = some (.int r) ∧ s = σ2) := by
  obtain ⟨d, rfl⟩ : ∃ e, d = e + 1 := ⟨d - 1, by omega⟩
  refine ⟨Nat.le_of_ble_eq_true rfl, ?_⟩
  show Rc none (Ev MT CT d) sg90 (0, [(0, .ref 0), (1, .int v1), (2, .int v2), (3, .int v3)], [], σ) _
  unfold j_lays_0 at h
  have hd : 2 ≤ d := by omega
  refine Rc.blk (c := []) (s2 := (1, [(0, .ref 0), (1, .int v1), (2, .int v2), (3, .int v3)], [.int v1], σ)) 0 rfl rfl (trivial) ?_
  obtain ⟨r1, σ1, hc, h⟩ := bd_some h
  refine Rc.call (Ev.mono d) (v := some (.int r1)) (as := [.int v1]) (r := []) 1 rfl rfl rfl rfl (Nat.le_of_ble_eq_true rfl) (j_isList_s_ok (by omega) hc) ?_
  show Rc _ _ _ (4, [(0, .ref 0), (1, .int v1), (2, .int v2), (3, .int v3)], [.int r1], σ1) _
  refine Rc.blk (c := []) (s2 := (if r1 = 0 then 15 else 7, [(0, .ref 0), (1, .int v1), (2, .int v2), (3, .int v3)], [], σ1)) 2 rfl rfl (trivial) ?_
  by_cases c13 : r1 = 0
  · rw [if_pos c13] at h
    refine Rc.ifp c13 ?_
    refine Rc.pick [0] (lv2 := [(0, .ref 0)]) rfl ?_
    exact j_lays_0_b15_ok hd _ _ _ h
  · rw [if_neg c13] at h
    refine Rc.ifn c13 ?_
    refine Rc.blk (c := []) (s2 := (9, [(0, .ref 0), (1, .int v1), (2, .int v2), (3, .int v3)], [.int v3, .ref 0], σ1)) 3 rfl rfl (trivial) ?_
    obtain ⟨r2, σ2, hc, h⟩ := bd_some h
    refine Rc.call (Ev.mono d) (v := some (.int r2)) (as := [.ref 0, .int v3]) (r := []) 4 rfl rfl rfl rfl ⟨rfl, Nat.le_of_ble_eq_true rfl⟩ (j_isGroup_0_ok (by omega) hc) ?_
    show Rc _ _ _ (12, [(0, .ref 0), (1, .int v1), (2, .int v2), (3, .int v3)], [.int r2], σ2) _
    refine Rc.blk (c := []) (s2 := (if ¬ r2 = 0 then 21 else 15, [(0, .ref 0), (1, .int v1), (2, .int v2), (3, .int v3)], [], σ2)) 5 rfl rfl (trivial) ?_
    by_cases c12 : r2 = 0
    · rw [if_pos c12] at h
      refine Rc.ifn (fun q => q c12) ?_
      refine Rc.pick [0] (lv2 := [(0, .ref 0)]) rfl ?_
      exact j_lays_0_b15_ok hd _ _ _ h
    · rw [if_neg c12] at h
      refine Rc.ifp c12 ?_
      refine Rc.blk (c := []) (s2 := (23, [(0, .ref 0), (1, .int v1), (2, .int v2), (3, .int v3)], [.int v1, .ref 0], σ2)) 9 rfl rfl (trivial) ?_
      obtain ⟨r3, σ3, hc, h⟩ := bd_some h
      refine Rc.call (Ev.mono d) (v := some (.int r3)) (as := [.ref 0, .int v1]) (r := []) 10 rfl rfl rfl rfl ⟨rfl, Nat.le_of_ble_eq_true rfl⟩ (j_isMissing_0_ok (by omega) hc) ?_
      show Rc _ _ _ (26, [(0, .ref 0), (1, .int v1), (2, .int v2), (3, .int v3)], [.int r3], σ3) _
      refine Rc.blk (c := []) (s2 := (if r3 = 0 then 32 else 29, [(0, .ref 0), (1, .int v1), (2, .int v2), (3, .int v3)], [], σ3)) 11 rfl rfl (trivial) ?_
      by_cases c11 : r3 = 0
      · rw [if_pos c11] at h
        refine Rc.ifp c11 ?_
        refine Rc.blk (c := []) (s2 := (if v2 < 0 then 54 else 36, [(0, .ref 0), (1, .int v1), (2, .int v2), (3, .int v3)], [], σ3)) 14 rfl rfl (trivial) ?_
        by_cases c10 : v2 < 0
        · rw [if_pos c10] at h
          refine Rc.ifp c10 ?_
          refine Rc.pick [] (lv2 := []) rfl ?_
          exact j_lays_0_b54_ok hd _ _ _ h
        · rw [if_neg c10] at h
          refine Rc.ifn c10 ?_
          obtain ⟨g4, h⟩ := gd_some h
          refine Rc.blk (c := [_, _, _, _]) (s2 := (if v2 ≤ ((σ3.1 112 v1.toNatClampNeg) - (σ3.1 1 0)) then 57 else 54, [(0, .ref 0), (1, .int v1), (2, .int v2), (3, .int v3)], [], σ3)) 15 rfl rfl (conj_c (rfl) (conj_c (⟨rfl, inB_in g4⟩) (conj_c (rfl) (conj_c (rfl) (trivial))))) ?_
          by_cases c9 : v2 ≤ ((σ3.1 112 v1.toNatClampNeg) - (σ3.1 1 0))
          · rw [if_pos c9] at h
            refine Rc.ifp c9 ?_
            refine Rc.blk (c := [_, _, _]) (s2 := (69, [(0, .ref 0), (1, .int v1), (2, .int v2), (3, .int v3)], [.int v3, .ref 51, .ref 62], σ3)) 18 rfl rfl (conj_c (rfl) (conj_c (rfl) (conj_c (rfl) (trivial)))) ?_
            obtain ⟨r5, σ5, hc, h⟩ := bd_some h
            refine Rc.call (Ev.mono d) (v := some (.int r5)) (as := [.ref 51, .int v3]) (r := [.ref 62]) 19 rfl rfl rfl rfl ⟨rfl, Nat.le_of_ble_eq_true rfl⟩ (j_looseAt_51_ok (by omega) hc) ?_
            show Rc _ _ _ (72, [(0, .ref 0), (1, .int v1), (2, .int v2), (3, .int v3)], [.int r5, .ref 62], σ5) _
            refine Rc.blk (c := [_]) (s2 := (76, [(0, .ref 0), (1, .int v1), (2, .int v2), (3, .int v3)], [.ref 113, .int r5, .ref 62], σ5)) 20 rfl rfl (conj_c (rfl) (trivial)) ?_
            obtain ⟨r6, σ6, hc, h⟩ := bd_some h
            refine Rc.call (Ev.mono d) (v := none) (as := [.ref 62, .int r5, .ref 113]) (r := []) 21 rfl rfl rfl rfl ⟨rfl, Nat.le_of_ble_eq_true rfl⟩ (j_relation_62_113_ok (by omega) hc) ?_
            show Rc _ _ _ (79, [(0, .ref 0), (1, .int v1), (2, .int v2), (3, .int v3)], [], σ6) _
            obtain ⟨g7, h⟩ := gd_some h
            obtain ⟨g8, h⟩ := gd_some h
            refine Rc.blk (c := [_, _, _, _, _, _, _, _]) (s2 := (108, [(0, .ref 0), (1, .int v1), (2, .int v2), (3, .int v3)], [.int ((scp σ6 113 (108 + 1 + v1.toNatClampNeg) 0 (v2.toNatClampNeg) ((σ6.1 1 0).toNatClampNeg)).1 1 0)], scp σ6 113 (108 + 1 + v1.toNatClampNeg) 0 (v2.toNatClampNeg) ((σ6.1 1 0).toNatClampNeg))) 22 rfl rfl (conj_c (rfl) (conj_c (rfl) (conj_c (⟨Or.inl rfl, inB_in g7⟩) (conj_c (rfl) (conj_c (rfl) (conj_c (cpB_ok (by decide) g8) (conj_c (rfl) (conj_c (rfl) (trivial))))))))) ?_
            obtain ⟨rfl, rfl⟩ := some_pair h
            exact Rc.ret 23 rfl rfl rfl trivial ⟨rfl, rfl⟩
          · rw [if_neg c9] at h
            refine Rc.ifn c9 ?_
            refine Rc.pick [] (lv2 := []) rfl ?_
            exact j_lays_0_b54_ok hd _ _ _ h
      · rw [if_neg c11] at h
        refine Rc.ifn c11 ?_
        refine Rc.blk (c := []) (s2 := (31, [(0, .ref 0), (1, .int v1), (2, .int v2), (3, .int v3)], [.int (-11)], σ3)) 12 rfl rfl (trivial) ?_
        obtain ⟨rfl, rfl⟩ := some_pair h
        exact Rc.ret 13 rfl rfl rfl trivial ⟨rfl, rfl⟩
