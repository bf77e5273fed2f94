/-! ===== the small machine does what the functions say ===== -/
theorem j_refusedFarLong_0_ok {d : Nat} (hd : 2 ≤ d) {v1 : Int32} {σ : Sg} {r : Int64} {σ2 : Sg} (h : j_refusedFarLong_0 v1 σ = some (r, σ2)) : Ev MT CT d 98 [.ref 0, .int v1] σ (fun v s => v = some (.long r) ∧ s = σ2) := by
  obtain ⟨d, rfl⟩ : ∃ e, d = e + 1 := ⟨d - 1, by omega⟩
  refine ⟨Nat.le_of_ble_eq_true rfl, ?_⟩
  show Rc none (Ev MT CT d) sg98 (0, [(0, .ref 0), (1, .int v1)], [], σ) _
  unfold j_refusedFarLong_0 at h
  have hd : 1 ≤ d := by omega
  refine Rc.blk (c := []) (s2 := (5, [(0, .ref 0), (1, .int v1)], [.int v1, .ref 0, .long 4000000000000000000], σ)) 0 rfl rfl (trivial) ?_
  obtain ⟨r1, σ1, hc, h⟩ := bd_some h
  refine Rc.call (Ev.mono d) (v := some (.int r1)) (as := [.ref 0, .int v1]) (r := [.long 4000000000000000000]) 1 rfl rfl rfl rfl ⟨rfl, Nat.le_of_ble_eq_true rfl⟩ (j_refused_0_ok (by omega) hc) ?_
  show Rc _ _ _ (8, [(0, .ref 0), (1, .int v1)], [.int r1, .long 4000000000000000000], σ1) _
  refine Rc.blk (c := []) (s2 := (10, [(0, .ref 0), (1, .int v1)], [.long (4000000000000000000 - r1.toInt64)], σ1)) 2 rfl rfl (trivial) ?_
  obtain ⟨rfl, rfl⟩ := some_pair h
  exact Rc.ret 3 rfl rfl rfl trivial ⟨rfl, rfl⟩
theorem j_cover_0_b15_ok {d : Nat} (hd : 2 ≤ d) (σ : Sg) (r : Int64) (σ2 : Sg) (h : j_cover_0_b15 σ = some (r, σ2)) : Rc none (Ev MT CT d) sg66 (15, [(0, .ref 0)], [], σ) (fun v s => v = some (.long r) ∧ s = σ2) := by
  unfold j_cover_0_b15 at h
  refine Rc.blk (c := []) (s2 := (17, [(0, .ref 0)], [.int (-1), .ref 0], σ)) 6 rfl rfl (trivial) ?_
  obtain ⟨r1, σ1, hc, h⟩ := bd_some h
  refine Rc.call (Ev.mono d) (v := some (.long r1)) (as := [.ref 0, .int (-1)]) (r := []) 7 rfl rfl rfl rfl ⟨rfl, Nat.le_of_ble_eq_true rfl⟩ (j_refusedFarLong_0_ok (by omega) hc) ?_
  show Rc _ _ _ (20, [(0, .ref 0)], [.long r1], σ1) _
  obtain ⟨rfl, rfl⟩ := some_pair h
  exact Rc.ret 8 rfl rfl rfl trivial ⟨rfl, rfl⟩
theorem j_cover_0_b83_ok {d : Nat} (hd : 2 ≤ d) (σ : Sg) (r : Int64) (σ2 : Sg) (h : j_cover_0_b83 σ = some (r, σ2)) : Rc none (Ev MT CT d) sg66 (83, [(0, .ref 0)], [], σ) (fun v s => v = some (.long r) ∧ s = σ2) := by
  unfold j_cover_0_b83 at h
  refine Rc.blk (c := []) (s2 := (86, [(0, .ref 0)], [.int (-3), .ref 0], σ)) 27 rfl rfl (trivial) ?_
  obtain ⟨r1, σ1, hc, h⟩ := bd_some h
  refine Rc.call (Ev.mono d) (v := some (.long r1)) (as := [.ref 0, .int (-3)]) (r := []) 28 rfl rfl rfl rfl ⟨rfl, Nat.le_of_ble_eq_true rfl⟩ (j_refusedFarLong_0_ok (by omega) hc) ?_
  show Rc _ _ _ (89, [(0, .ref 0)], [.long r1], σ1) _
  obtain ⟨rfl, rfl⟩ := some_pair h
  exact Rc.ret 29 rfl rfl rfl trivial ⟨rfl, rfl⟩
theorem j_cover_0_ok {d : Nat} (hd : 3 ≤ d) {v1 : Int32} {v2 : Int32} {v3 : Int32} {σ : Sg} {r : Int64} {σ2 : Sg} (h : j_cover_0 v1 v2 v3 σ = some (r, σ2)) : Ev MT CT d 66 [.ref 0, .int v1, .int v2, .int v3] σ (fun v s => v = some (.long r) ∧ s = σ2) := by
  obtain ⟨d, rfl⟩ : ∃ e, d = e + 1 := ⟨d - 1, by omega⟩
  refine ⟨Nat.le_of_ble_eq_true rfl, ?_⟩
  show Rc none (Ev MT CT d) sg66 (0, [(0, .ref 0), (1, .int v1), (2, .int v2), (3, .int v3)], [], σ) _
  unfold j_cover_0 at h
  have hd : 2 ≤ d := by omega
  refine Rc.blk (c := []) (s2 := (1, [(0, .ref 0), (1, .int v1), (2, .int v2), (3, .int v3)], [.int v1], σ)) 0 rfl rfl (trivial) ?_
  obtain ⟨r1, σ1, hc, h⟩ := bd_some h
  refine Rc.call (Ev.mono d) (v := some (.int r1)) (as := [.int v1]) (r := []) 1 rfl rfl rfl rfl (Nat.le_of_ble_eq_true rfl) (j_isList_s_ok (by omega) hc) ?_
  show Rc _ _ _ (4, [(0, .ref 0), (1, .int v1), (2, .int v2), (3, .int v3)], [.int r1], σ1) _
  refine Rc.blk (c := []) (s2 := (if r1 = 0 then 15 else 7, [(0, .ref 0), (1, .int v1), (2, .int v2), (3, .int v3)], [], σ1)) 2 rfl rfl (trivial) ?_
  by_cases c19 : r1 = 0
  · rw [if_pos c19] at h
    refine Rc.ifp c19 ?_
    refine Rc.pick [0] (lv2 := [(0, .ref 0)]) rfl ?_
    exact j_cover_0_b15_ok hd _ _ _ h
  · rw [if_neg c19] at h
    refine Rc.ifn c19 ?_
    refine Rc.blk (c := []) (s2 := (9, [(0, .ref 0), (1, .int v1), (2, .int v2), (3, .int v3)], [.int v2, .ref 0], σ1)) 3 rfl rfl (trivial) ?_
    obtain ⟨r2, σ2, hc, h⟩ := bd_some h
    refine Rc.call (Ev.mono d) (v := some (.int r2)) (as := [.ref 0, .int v2]) (r := []) 4 rfl rfl rfl rfl ⟨rfl, Nat.le_of_ble_eq_true rfl⟩ (j_isGroup_0_ok (by omega) hc) ?_
    show Rc _ _ _ (12, [(0, .ref 0), (1, .int v1), (2, .int v2), (3, .int v3)], [.int r2], σ2) _
    refine Rc.blk (c := []) (s2 := (if ¬ r2 = 0 then 21 else 15, [(0, .ref 0), (1, .int v1), (2, .int v2), (3, .int v3)], [], σ2)) 5 rfl rfl (trivial) ?_
    by_cases c18 : r2 = 0
    · rw [if_pos c18] at h
      refine Rc.ifn (fun q => q c18) ?_
      refine Rc.pick [0] (lv2 := [(0, .ref 0)]) rfl ?_
      exact j_cover_0_b15_ok hd _ _ _ h
    · rw [if_neg c18] at h
      refine Rc.ifp c18 ?_
      refine Rc.blk (c := []) (s2 := (22, [(0, .ref 0), (1, .int v1), (2, .int v2), (3, .int v3)], [.int v3], σ2)) 9 rfl rfl (trivial) ?_
      obtain ⟨r3, σ3, hc, h⟩ := bd_some h
      refine Rc.call (Ev.mono d) (v := some (.int r3)) (as := [.int v3]) (r := []) 10 rfl rfl rfl rfl (Nat.le_of_ble_eq_true rfl) (j_isPart_s_ok (by omega) hc) ?_
      show Rc _ _ _ (25, [(0, .ref 0), (1, .int v1), (2, .int v2), (3, .int v3)], [.int r3], σ3) _
      refine Rc.blk (c := []) (s2 := (if ¬ r3 = 0 then 35 else 28, [(0, .ref 0), (1, .int v1), (2, .int v2), (3, .int v3)], [], σ3)) 11 rfl rfl (trivial) ?_
      by_cases c17 : r3 = 0
      · rw [if_pos c17] at h
        refine Rc.ifn (fun q => q c17) ?_
        refine Rc.blk (c := []) (s2 := (31, [(0, .ref 0), (1, .int v1), (2, .int v2), (3, .int v3)], [.int (-2), .ref 0], σ3)) 12 rfl rfl (trivial) ?_
        obtain ⟨r16, σ16, hc, h⟩ := bd_some h
        refine Rc.call (Ev.mono d) (v := some (.long r16)) (as := [.ref 0, .int (-2)]) (r := []) 13 rfl rfl rfl rfl ⟨rfl, Nat.le_of_ble_eq_true rfl⟩ (j_refusedFarLong_0_ok (by omega) hc) ?_
        show Rc _ _ _ (34, [(0, .ref 0), (1, .int v1), (2, .int v2), (3, .int v3)], [.long r16], σ16) _
        obtain ⟨rfl, rfl⟩ := some_pair h
        exact Rc.ret 14 rfl rfl rfl trivial ⟨rfl, rfl⟩
      · rw [if_neg c17] at h
        refine Rc.ifp c17 ?_
        refine Rc.blk (c := []) (s2 := (37, [(0, .ref 0), (1, .int v1), (2, .int v2), (3, .int v3)], [.int v1, .ref 0], σ3)) 15 rfl rfl (trivial) ?_
        obtain ⟨r4, σ4, hc, h⟩ := bd_some h
        refine Rc.call (Ev.mono d) (v := some (.int r4)) (as := [.ref 0, .int v1]) (r := []) 16 rfl rfl rfl rfl ⟨rfl, Nat.le_of_ble_eq_true rfl⟩ (j_isMissing_0_ok (by omega) hc) ?_
        show Rc _ _ _ (40, [(0, .ref 0), (1, .int v1), (2, .int v2), (3, .int v3)], [.int r4], σ4) _
        refine Rc.blk (c := []) (s2 := (if r4 = 0 then 50 else 43, [(0, .ref 0), (1, .int v1), (2, .int v2), (3, .int v3)], [], σ4)) 17 rfl rfl (trivial) ?_
        by_cases c15 : r4 = 0
        · rw [if_pos c15] at h
          refine Rc.ifp c15 ?_
          refine Rc.blk (c := [_, _, _]) (s2 := (63, [(0, .ref 0), (1, .int v1), (2, .int v2), (3, .int v3)], [.ref 114, .int (σ4.1 1 0), .int v1, .ref 0], σ4)) 21 rfl rfl (conj_c (rfl) (conj_c (rfl) (conj_c (rfl) (trivial)))) ?_
          obtain ⟨r5, σ5, hc, h⟩ := bd_some h
          refine Rc.call (Ev.mono d) (v := some (.int r5)) (as := [.ref 0, .int v1, .int (σ4.1 1 0), .ref 114]) (r := []) 22 rfl rfl rfl rfl ⟨rfl, Nat.le_of_ble_eq_true rfl⟩ (j_takeNumbers_0_114_ok (by omega) hc) ?_
          show Rc _ _ _ (66, [(0, .ref 0), (1, .int v1), (2, .int v2), (3, .int v3)], [.int r5], σ5) _
          refine Rc.blk (c := []) (s2 := (if r5 = 0 then 83 else 69, [(0, .ref 0), (1, .int v1), (2, .int v2), (3, .int v3)], [], σ5)) 23 rfl rfl (trivial) ?_
          by_cases c13 : r5 = 0
          · rw [if_pos c13] at h
            refine Rc.ifp c13 ?_
            refine Rc.pick [0] (lv2 := [(0, .ref 0)]) rfl ?_
            exact j_cover_0_b83_ok hd _ _ _ h
          · rw [if_neg c13] at h
            refine Rc.ifn c13 ?_
            refine Rc.blk (c := [_, _]) (s2 := (77, [(0, .ref 0), (1, .int v1), (2, .int v2), (3, .int v3)], [.ref 114, .ref 51], σ5)) 24 rfl rfl (conj_c (rfl) (conj_c (rfl) (trivial))) ?_
            obtain ⟨r6, σ6, hc, h⟩ := bd_some h
            refine Rc.call (Ev.mono d) (v := some (.int r6)) (as := [.ref 51, .ref 114]) (r := []) 25 rfl rfl rfl rfl ⟨rfl, Nat.le_of_ble_eq_true rfl⟩ (j_isPureProduct_51_114_ok (by omega) hc) ?_
            show Rc _ _ _ (80, [(0, .ref 0), (1, .int v1), (2, .int v2), (3, .int v3)], [.int r6], σ6) _
            refine Rc.blk (c := []) (s2 := (if ¬ r6 = 0 then 90 else 83, [(0, .ref 0), (1, .int v1), (2, .int v2), (3, .int v3)], [], σ6)) 26 rfl rfl (trivial) ?_
            by_cases c12 : r6 = 0
            · rw [if_pos c12] at h
              refine Rc.ifn (fun q => q c12) ?_
              refine Rc.pick [0] (lv2 := [(0, .ref 0)]) rfl ?_
              exact j_cover_0_b83_ok hd _ _ _ h
            · rw [if_neg c12] at h
              refine Rc.ifp c12 ?_
              refine Rc.blk (c := [_]) (s2 := (95, [(0, .ref 0), (1, .int v1), (2, .int v2), (3, .int v3)], [.int v2, .ref 51], σ6)) 30 rfl rfl (conj_c (rfl) (trivial)) ?_
              obtain ⟨r7, σ7, hc, h⟩ := bd_some h
              refine Rc.call (Ev.mono d) (v := some (.int r7)) (as := [.ref 51, .int v2]) (r := []) 31 rfl rfl rfl rfl ⟨rfl, Nat.le_of_ble_eq_true rfl⟩ (j_looseAt_51_ok (by omega) hc) ?_
              show Rc _ _ _ (98, [(0, .ref 0), (1, .int v1), (2, .int v2), (3, .int v3)], [.int r7], σ7) _
              refine Rc.blk (c := [_, _, _]) (s2 := (113, [(4, .int r7), (0, .ref 0), (1, .int v1), (2, .int v2), (3, .int v3)], [.ref 113, .int r7, .ref 62], σ7)) 32 rfl rfl (conj_c (rfl) (conj_c (rfl) (conj_c (rfl) (trivial)))) ?_
              obtain ⟨r8, σ8, hc, h⟩ := bd_some h
              refine Rc.call (Ev.mono d) (v := none) (as := [.ref 62, .int r7, .ref 113]) (r := []) 33 rfl rfl rfl rfl ⟨rfl, Nat.le_of_ble_eq_true rfl⟩ (j_relation_62_113_ok (by omega) hc) ?_
              show Rc _ _ _ (116, [(4, .int r7), (0, .ref 0), (1, .int v1), (2, .int v2), (3, .int v3)], [], σ8) _
              obtain ⟨g9, h⟩ := gd_some h
              obtain ⟨g10, h⟩ := gd_some h
              refine Rc.blk (c := [_, _, _, _]) (s2 := (133, [(4, .int r7), (0, .ref 0), (1, .int v1), (2, .int v2), (3, .int v3)], [.int v3, .long ((σ8.1 113 r7.toNatClampNeg).toInt64), .long ((σ8.1 114 r7.toNatClampNeg).toInt64)], σ8)) 34 rfl rfl (conj_c (rfl) (conj_c (⟨rfl, inB_in g9⟩) (conj_c (rfl) (conj_c (⟨rfl, inB_in g10⟩) (trivial))))) ?_
              obtain ⟨r11, σ11, hc, h⟩ := bd_some h
              refine Rc.call (Ev.mono d) (v := some (.long r11)) (as := [.long ((σ8.1 114 r7.toNatClampNeg).toInt64), .long ((σ8.1 113 r7.toNatClampNeg).toInt64), .int v3]) (r := []) 35 rfl rfl rfl rfl (Nat.le_of_ble_eq_true rfl) (j_partOf_s_ok (by omega) hc) ?_
              show Rc _ _ _ (136, [(4, .int r7), (0, .ref 0), (1, .int v1), (2, .int v2), (3, .int v3)], [.long r11], σ11) _
              obtain ⟨rfl, rfl⟩ := some_pair h
              exact Rc.ret 36 rfl rfl rfl trivial ⟨rfl, rfl⟩
        · rw [if_neg c15] at h
          refine Rc.ifn c15 ?_
          refine Rc.blk (c := []) (s2 := (46, [(0, .ref 0), (1, .int v1), (2, .int v2), (3, .int v3)], [.int (-11), .ref 0], σ4)) 18 rfl rfl (trivial) ?_
          obtain ⟨r14, σ14, hc, h⟩ := bd_some h
          refine Rc.call (Ev.mono d) (v := some (.long r14)) (as := [.ref 0, .int (-11)]) (r := []) 19 rfl rfl rfl rfl ⟨rfl, Nat.le_of_ble_eq_true rfl⟩ (j_refusedFarLong_0_ok (by omega) hc) ?_
          show Rc _ _ _ (49, [(0, .ref 0), (1, .int v1), (2, .int v2), (3, .int v3)], [.long r14], σ14) _
          obtain ⟨rfl, rfl⟩ := some_pair h
          exact Rc.ret 20 rfl rfl rfl trivial ⟨rfl, rfl⟩
theorem j_pureInBox_61_b16_ok (d0 : Nat) (rs : Int32 → Int32 → Int64 → Sg → Option (Int32 × Sg)) (hrs : ∀ (v1 : Int32) (v2 : Int32) (v3 : Int64) (σ : Sg) (r : Int32) (σ2 : Sg), rs v1 v2 v3 σ = some (r, σ2) → Ev MT CT d0 39 [.ref 61, .int v1, .int v2, .long v3] σ (fun v s => v = some (.int r) ∧ s = σ2)) {d : Nat} (hd : 0 ≤ d) (hd0 : d0 + 0 ≤ d) (s0 : Int32) (σ : Sg) (r : Int32) (σ2 : Sg) (h : j_pureInBox_61_b16 rs s0 σ = some (r, σ2)) : Rc none (Ev MT CT d) sg39 (16, [], [.int s0], σ) (fun v s => v = some (.int r) ∧ s = σ2) := by
  unfold j_pureInBox_61_b16 at h
  obtain ⟨rfl, rfl⟩ := some_pair h
  exact Rc.ret 4 rfl rfl rfl trivial ⟨rfl, rfl⟩
theorem j_pureInBox_61_H_ok (d0 : Nat) (rs : Int32 → Int32 → Int64 → Sg → Option (Int32 × Sg)) (hrs : ∀ (v1 : Int32) (v2 : Int32) (v3 : Int64) (σ : Sg) (r : Int32) (σ2 : Sg), rs v1 v2 v3 σ = some (r, σ2) → Ev MT CT d0 39 [.ref 61, .int v1, .int v2, .long v3] σ (fun v s => v = some (.int r) ∧ s = σ2)) {d : Nat} (hd : 1 ≤ d) (hd0 : d0 + 1 ≤ d) {v1 : Int32} {v2 : Int32} {v3 : Int64} {σ : Sg} {r : Int32} {σ2 : Sg} (h : j_pureInBox_61_H rs v1 v2 v3 σ = some (r, σ2)) : Ev MT CT d 39 [.ref 61, .int v1, .int v2, .long v3] σ (fun v s => v = some (.int r) ∧ s = σ2) := by
  obtain ⟨d, rfl⟩ : ∃ e, d = e + 1 := ⟨d - 1, by omega⟩
  refine ⟨Nat.le_of_ble_eq_true rfl, ?_⟩
  show Rc none (Ev MT CT d) sg39 (0, [(0, .ref 61), (1, .int v1), (2, .int v2), (3, .long v3)], [], σ) _
  unfold j_pureInBox_61_H at h
  have hd : 0 ≤ d := by omega
  have hd0 : d0 + 0 ≤ d := by omega
  refine Rc.blk (c := []) (s2 := (if v2 < v1 then 17 else 5, [(0, .ref 61), (1, .int v1), (2, .int v2), (3, .long v3)], [], σ)) 0 rfl rfl (trivial) ?_
  by_cases c7 : v2 < v1
  · rw [if_pos c7] at h
    refine Rc.ifp c7 ?_
    obtain ⟨g1, h⟩ := gd_some h
    refine Rc.blk (c := [_]) (s2 := (27, [(0, .ref 61), (1, .int v1), (2, .int v2), (3, .long v3)], [.long (v3 - (σ.2 61 v2.toNatClampNeg)), .int (v2 + 1), .int v1, .ref 61], σ)) 5 rfl rfl (conj_c (⟨rfl, inB_in g1⟩) (trivial)) ?_
    obtain ⟨r2, σ2, hc, h⟩ := bd_some h
    refine Rc.call (Ev.mono d) (v := some (.int r2)) (as := [.ref 61, .int v1, .int (v2 + 1), .long (v3 - (σ.2 61 v2.toNatClampNeg))]) (r := []) 6 rfl rfl rfl rfl (Nat.le_of_ble_eq_true rfl) (Ev.le (by omega) (hrs _ _ _ _ _ _ hc)) ?_
    show Rc _ _ _ (30, [(0, .ref 61), (1, .int v1), (2, .int v2), (3, .long v3)], [.int r2], σ2) _
    refine Rc.blk (c := []) (s2 := (36, [(0, .ref 61), (1, .int v1), (2, .int v2), (3, .long v3)], [.long v3, .int (v2 + 1), .int v1, .ref 61, .int r2], σ2)) 7 rfl rfl (trivial) ?_
    obtain ⟨r3, σ3, hc, h⟩ := bd_some h
    refine Rc.call (Ev.mono d) (v := some (.int r3)) (as := [.ref 61, .int v1, .int (v2 + 1), .long v3]) (r := [.int r2]) 8 rfl rfl rfl rfl (Nat.le_of_ble_eq_true rfl) (Ev.le (by omega) (hrs _ _ _ _ _ _ hc)) ?_
    show Rc _ _ _ (39, [(0, .ref 61), (1, .int v1), (2, .int v2), (3, .long v3)], [.int r3, .int r2], σ3) _
    obtain ⟨g4, h⟩ := gd_some h
    refine Rc.blk (c := [_]) (s2 := (50, [(0, .ref 61), (1, .int v1), (2, .int v2), (3, .long v3)], [.long (v3 + (σ3.2 61 v2.toNatClampNeg)), .int (v2 + 1), .int v1, .ref 61, .int (r2 + r3)], σ3)) 9 rfl rfl (conj_c (⟨rfl, inB_in g4⟩) (trivial)) ?_
    obtain ⟨r5, σ5, hc, h⟩ := bd_some h
    refine Rc.call (Ev.mono d) (v := some (.int r5)) (as := [.ref 61, .int v1, .int (v2 + 1), .long (v3 + (σ3.2 61 v2.toNatClampNeg))]) (r := [.int (r2 + r3)]) 10 rfl rfl rfl rfl (Nat.le_of_ble_eq_true rfl) (Ev.le (by omega) (hrs _ _ _ _ _ _ hc)) ?_
    show Rc _ _ _ (53, [(0, .ref 61), (1, .int v1), (2, .int v2), (3, .long v3)], [.int r5, .int (r2 + r3)], σ5) _
    refine Rc.blk (c := []) (s2 := (54, [(0, .ref 61), (1, .int v1), (2, .int v2), (3, .long v3)], [.int ((r2 + r3) + r5)], σ5)) 11 rfl rfl (trivial) ?_
    obtain ⟨rfl, rfl⟩ := some_pair h
    exact Rc.ret 12 rfl rfl rfl trivial ⟨rfl, rfl⟩
  · rw [if_neg c7] at h
    refine Rc.ifn c7 ?_
    refine Rc.blk (c := []) (s2 := (if ¬ (lg_cmp v3 0) = 0 then 15 else 11, [(0, .ref 61), (1, .int v1), (2, .int v2), (3, .long v3)], [], σ)) 1 rfl rfl (trivial) ?_
    by_cases c6 : (lg_cmp v3 0) = 0
    · rw [if_pos c6] at h
      refine Rc.ifn (fun q => q c6) ?_
      refine Rc.blk (c := []) (s2 := (16, [(0, .ref 61), (1, .int v1), (2, .int v2), (3, .long v3)], [.int 1], σ)) 2 rfl rfl (trivial) ?_
      refine Rc.pick [] (lv2 := []) rfl ?_
      exact j_pureInBox_61_b16_ok d0 rs hrs hd hd0 _ _ _ _ h
    · rw [if_neg c6] at h
      refine Rc.ifp c6 ?_
      refine Rc.blk (c := []) (s2 := (16, [(0, .ref 61), (1, .int v1), (2, .int v2), (3, .long v3)], [.int 0], σ)) 3 rfl rfl (trivial) ?_
      refine Rc.pick [] (lv2 := []) rfl ?_
      exact j_pureInBox_61_b16_ok d0 rs hrs hd hd0 _ _ _ _ h
theorem j_pureInBox_61_lv : ∀ (n : Nat) (v1 : Int32) (v2 : Int32) (v3 : Int64) (σ : Sg) (r : Int32) (σ2 : Sg), j_pureInBox_61 n v1 v2 v3 σ = some (r, σ2) → Ev MT CT (1 + 1 * n) 39 [.ref 61, .int v1, .int v2, .long v3] σ (fun v s => v = some (.int r) ∧ s = σ2)
  | 0, _, _, _, _, _, _, h => by cases h
  | n + 1, v1, v2, v3, σ, r, σ2, h => j_pureInBox_61_H_ok (1 + 1 * n) (j_pureInBox_61 n) (j_pureInBox_61_lv n) (by omega) (by omega) h
theorem j_pureInBox_61_top {d : Nat} (hd : 13 ≤ d) {v1 : Int32} {v2 : Int32} {v3 : Int64} {σ : Sg} {r : Int32} {σ2 : Sg} (h : j_pureInBox_61 12 v1 v2 v3 σ = some (r, σ2)) : Ev MT CT d 39 [.ref 61, .int v1, .int v2, .long v3] σ (fun v s => v = some (.int r) ∧ s = σ2) := Ev.le (by omega) (j_pureInBox_61_lv 12 v1 v2 v3 σ r σ2 h)
theorem j_countBox_80_ok {d : Nat} (hd : 14 ≤ d) {σ : Sg} {r : Int32} {σ2 : Sg} (h : j_countBox_80 σ = some (r, σ2)) : Ev MT CT d 38 [.ref 80] σ (fun v s => v = some (.int r) ∧ s = σ2) := by
  obtain ⟨d, rfl⟩ : ∃ e, d = e + 1 := ⟨d - 1, by omega⟩
  refine ⟨Nat.le_of_ble_eq_true rfl, ?_⟩
  show Rc none (Ev MT CT d) sg38 (0, [(0, .ref 80)], [], σ) _
  unfold j_countBox_80 at h
  have hd : 13 ≤ d := by omega
  refine Rc.blk (c := [_, _, _, _]) (s2 := (16, [(0, .ref 80)], [.long 0, .int 0, .int (σ.1 51 0), .ref 61], σ)) 0 rfl rfl (conj_c (rfl) (conj_c (rfl) (conj_c (rfl) (conj_c (rfl) (trivial))))) ?_
  obtain ⟨r1, σ1, hc, h⟩ := bd_some h
  refine Rc.call (Ev.mono d) (v := some (.int r1)) (as := [.ref 61, .int (σ.1 51 0), .int 0, .long 0]) (r := []) 1 rfl rfl rfl rfl (Nat.le_of_ble_eq_true rfl) (j_pureInBox_61_top (by omega) hc) ?_
  show Rc _ _ _ (19, [(0, .ref 80)], [.int r1], σ1) _
  obtain ⟨rfl, rfl⟩ := some_pair h
  exact Rc.ret 2 rfl rfl rfl trivial ⟨rfl, rfl⟩
theorem j_box_0_ok {d : Nat} (hd : 15 ≤ d) {σ : Sg} {r : Int32} {σ2 : Sg} (h : j_box_0 σ = some (r, σ2)) : Ev MT CT d 67 [.ref 0] σ (fun v s => v = some (.int r) ∧ s = σ2) := by
  obtain ⟨d, rfl⟩ : ∃ e, d = e + 1 := ⟨d - 1, by omega⟩
  refine ⟨Nat.le_of_ble_eq_true rfl, ?_⟩
  show Rc none (Ev MT CT d) sg67 (0, [(0, .ref 0)], [], σ) _
  unfold j_box_0 at h
  have hd : 14 ≤ d := by omega
  refine Rc.blk (c := [_]) (s2 := (4, [(0, .ref 0)], [.ref 80], σ)) 0 rfl rfl (conj_c (rfl) (trivial)) ?_
  obtain ⟨r1, σ1, hc, h⟩ := bd_some h
  refine Rc.call (Ev.mono d) (v := some (.int r1)) (as := [.ref 80]) (r := []) 1 rfl rfl rfl rfl ⟨rfl, Nat.le_of_ble_eq_true rfl⟩ (j_countBox_80_ok (by omega) hc) ?_
  show Rc _ _ _ (7, [(0, .ref 0)], [.int r1], σ1) _
  obtain ⟨rfl, rfl⟩ := some_pair h
  exact Rc.ret 2 rfl rfl rfl trivial ⟨rfl, rfl⟩
theorem j_fillAII_81_H5_ok {d : Nat} (hd : 0 ≤ d) {k5 : Int32 → Int32 → Int32 → Sg → Option (Unit × Sg)} (hk5 : ∀ (v1 : Int32) (v2 : Int32) (v3 : Int32) (σ : Sg) (r : Unit) (σ2 : Sg), k5 v1 v2 v3 σ = some (r, σ2) → Rc none (Ev MT CT d) sg230 (5, [(0, .ref 81), (1, .int v1), (2, .int v2), (3, .int v3)], [], σ) (fun v s => v = none ∧ s = σ2)) (v1 : Int32) (v2 : Int32) (v3 : Int32) (σ : Sg) (r : Unit) (σ2 : Sg) (h : j_fillAII_81_H5 k5 v1 v2 v3 σ = some (r, σ2)) : Rc none (Ev MT CT d) sg230 (5, [(0, .ref 81), (1, .int v1), (2, .int v2), (3, .int v3)], [], σ) (fun v s => v = none ∧ s = σ2) := by
  unfold j_fillAII_81_H5 at h
  refine Rc.blk (c := []) (s2 := (if v3 ≤ v2 then 20 else 10, [(0, .ref 81), (1, .int v1), (2, .int v2), (3, .int v3)], [], σ)) 1 rfl rfl (trivial) ?_
  by_cases c2 : v3 ≤ v2
  · rw [if_pos c2] at h
    refine Rc.ifp c2 ?_
    obtain ⟨rfl, rfl⟩ := some_pair h
    exact Rc.ret 3 rfl rfl rfl trivial ⟨rfl, rfl⟩
  · rw [if_neg c2] at h
    refine Rc.ifn c2 ?_
    obtain ⟨g1, h⟩ := gd_some h
    refine Rc.blk (c := [_]) (s2 := (5, [(2, .int (v2 + 1)), (0, .ref 81), (1, .int v1), (3, .int v3)], [], si σ 81 v2.toNatClampNeg v1)) 2 rfl rfl (conj_c (⟨rfl, inB_in g1⟩) (trivial)) ?_
    refine Rc.pick [1, 2, 0, 3] (lv2 := [(0, .ref 81), (1, .int v1), (2, .int (v2 + 1)), (3, .int v3)]) rfl ?_
    exact hk5 _ _ _ _ _ _ h
theorem j_fillAII_81_L5_ok {d : Nat} (hd : 0 ≤ d) : ∀ (n : Nat) (v1 : Int32) (v2 : Int32) (v3 : Int32) (σ : Sg) (r : Unit) (σ2 : Sg), j_fillAII_81_L5 n v1 v2 v3 σ = some (r, σ2) → Rc none (Ev MT CT d) sg230 (5, [(0, .ref 81), (1, .int v1), (2, .int v2), (3, .int v3)], [], σ) (fun v s => v = none ∧ s = σ2)
  | 0, _, _, _, _, _, _, h => by cases h
  | n + 1, v1, v2, v3, σ, r, σ2, h => j_fillAII_81_H5_ok hd (j_fillAII_81_L5_ok hd n) v1 v2 v3 σ r σ2 h
theorem j_fillAII_81_ok {d : Nat} (hd : 1 ≤ d) {v1 : Int32} {σ : Sg} {r : Unit} {σ2 : Sg} (h : j_fillAII_81 v1 σ = some (r, σ2)) : Ev MT CT d 230 [.ref 81, .int v1] σ (fun v s => v = none ∧ s = σ2) := by
  obtain ⟨d, rfl⟩ : ∃ e, d = e + 1 := ⟨d - 1, by omega⟩
  refine ⟨Nat.le_of_ble_eq_true rfl, ?_⟩
  show Rc none (Ev MT CT d) sg230 (0, [(0, .ref 81), (1, .int v1)], [], σ) _
  unfold j_fillAII_81 at h
  have hd : 0 ≤ d := by omega
  refine Rc.blk (c := [_]) (s2 := (5, [(3, .int 8), (2, .int 0), (0, .ref 81), (1, .int v1)], [], σ)) 0 rfl rfl (conj_c ((by decide)) (trivial)) ?_
  refine Rc.pick [2, 3, 1, 0] (lv2 := [(0, .ref 81), (1, .int v1), (2, .int 0), (3, .int 8)]) rfl ?_
  exact j_fillAII_81_L5_ok hd fu _ _ _ _ _ _ h
theorem j_hasPure_61_81_H50_ok (d0 : Nat) (rs : Int32 → Int32 → Int32 → Int64 → Sg → Option (Int32 × Sg)) (hrs : ∀ (v1 : Int32) (v3 : Int32) (v4 : Int32) (v5 : Int64) (σ : Sg) (r : Int32) (σ2 : Sg), rs v1 v3 v4 v5 σ = some (r, σ2) → Ev MT CT d0 41 [.ref 61, .int v1, .ref 81, .int v3, .int v4, .long v5] σ (fun v s => v = some (.int r) ∧ s = σ2)) {d : Nat} (hd : 0 ≤ d) (hd0 : d0 + 0 ≤ d) {k50 : Int32 → Int32 → Int32 → Int64 → Int32 → Int32 → Sg → Option (Int32 × Sg)} (hk50 : ∀ (v1 : Int32) (v3 : Int32) (v4 : Int32) (v5 : Int64) (v7 : Int32) (v8 : Int32) (σ : Sg) (r : Int32) (σ2 : Sg), k50 v1 v3 v4 v5 v7 v8 σ = some (r, σ2) → Rc none (Ev MT CT d) sg41 (50, [(0, .ref 61), (1, .int v1), (2, .ref 81), (3, .int v3), (4, .int v4), (5, .long v5), (7, .int v7), (8, .int v8)], [], σ) (fun v s => v = some (.int r) ∧ s = σ2)) (v1 : Int32) (v3 : Int32) (v4 : Int32) (v5 : Int64) (v7 : Int32) (v8 : Int32) (σ : Sg) (r : Int32) (σ2 : Sg) (h : j_hasPure_61_81_H50 rs k50 v1 v3 v4 v5 v7 v8 σ = some (r, σ2)) : Rc none (Ev MT CT d) sg41 (50, [(0, .ref 61), (1, .int v1), (2, .ref 81), (3, .int v3), (4, .int v4), (5, .long v5), (7, .int v7), (8, .int v8)], [], σ) (fun v s => v = some (.int r) ∧ s = σ2) := by
  unfold j_hasPure_61_81_H50 at h
  refine Rc.blk (c := []) (s2 := (if v4 < v8 then 104 else 57, [(0, .ref 61), (1, .int v1), (2, .ref 81), (3, .int v3), (4, .int v4), (5, .long v5), (7, .int v7), (8, .int v8)], [], σ)) 11 rfl rfl (trivial) ?_
  by_cases c6 : v4 < v8
  · rw [if_pos c6] at h
    refine Rc.ifp c6 ?_
    obtain ⟨g1, h⟩ := gd_some h
    refine Rc.blk (c := [_]) (s2 := (109, [(0, .ref 61), (1, .int v1), (2, .ref 81), (3, .int v3), (4, .int v4), (5, .long v5), (7, .int v7), (8, .int v8)], [.int 0], si σ 81 v3.toNatClampNeg 0)) 18 rfl rfl (conj_c (⟨rfl, inB_in g1⟩) (trivial)) ?_
    obtain ⟨rfl, rfl⟩ := some_pair h
    exact Rc.ret 19 rfl rfl rfl (Or.inl rfl) ⟨rfl, rfl⟩
  · rw [if_neg c6] at h
    refine Rc.ifn c6 ?_
    obtain ⟨g2, h⟩ := gd_some h
    obtain ⟨g3, h⟩ := gd_some h
    refine Rc.blk (c := [_, _, _]) (s2 := (86, [(0, .ref 61), (1, .int v1), (2, .ref 81), (3, .int v3), (4, .int v4), (5, .long v5), (7, .int v7), (8, .int v8)], [.long (v5 + (v8.toInt64 * ((si σ 81 v3.toNatClampNeg v8).2 61 v3.toNatClampNeg))), .int (v4 - (iabs v8)), .int (v3 + 1), .ref 81, .int v1, .ref 61], si σ 81 v3.toNatClampNeg v8)) 12 rfl rfl (conj_c (⟨rfl, inB_in g2⟩) (conj_c (Nat.le_of_ble_eq_true rfl) (conj_c (⟨rfl, inB_in g3⟩) (trivial)))) ?_
    obtain ⟨r4, σ4, hc, h⟩ := bd_some h
    refine Rc.call (Ev.mono d) (v := some (.int r4)) (as := [.ref 61, .int v1, .ref 81, .int (v3 + 1), .int (v4 - (iabs v8)), .long (v5 + (v8.toInt64 * ((si σ 81 v3.toNatClampNeg v8).2 61 v3.toNatClampNeg)))]) (r := []) 13 rfl rfl rfl rfl (Nat.le_of_ble_eq_true rfl) (Ev.le (by omega) (hrs _ _ _ _ _ _ _ hc)) ?_
    show Rc _ _ _ (89, [(0, .ref 61), (1, .int v1), (2, .ref 81), (3, .int v3), (4, .int v4), (5, .long v5), (7, .int v7), (8, .int v8)], [.int r4], σ4) _
    refine Rc.blk (c := []) (s2 := (if r4 = 0 then 94 else 92, [(0, .ref 61), (1, .int v1), (2, .ref 81), (3, .int v3), (4, .int v4), (5, .long v5), (7, .int v7), (8, .int v8)], [], σ4)) 14 rfl rfl (trivial) ?_
    by_cases c5 : r4 = 0
    · rw [if_pos c5] at h
      refine Rc.ifp c5 ?_
      refine Rc.blk (c := []) (s2 := (50, [(8, .int (v8 + v7)), (0, .ref 61), (1, .int v1), (2, .ref 81), (3, .int v3), (4, .int v4), (5, .long v5), (7, .int v7)], [], σ4)) 17 rfl rfl (trivial) ?_
      refine Rc.pick [1, 2, 3, 4, 5, 6, 7, 0] (lv2 := [(0, .ref 61), (1, .int v1), (2, .ref 81), (3, .int v3), (4, .int v4), (5, .long v5), (7, .int v7), (8, .int (v8 + v7))]) rfl ?_
      exact hk50 _ _ _ _ _ _ _ _ _ h
    · rw [if_neg c5] at h
      refine Rc.ifn c5 ?_
      refine Rc.blk (c := []) (s2 := (93, [(0, .ref 61), (1, .int v1), (2, .ref 81), (3, .int v3), (4, .int v4), (5, .long v5), (7, .int v7), (8, .int v8)], [.int 1], σ4)) 15 rfl rfl (trivial) ?_
      obtain ⟨rfl, rfl⟩ := some_pair h
      exact Rc.ret 16 rfl rfl rfl (Or.inr rfl) ⟨rfl, rfl⟩
theorem j_hasPure_61_81_L50_ok (d0 : Nat) (rs : Int32 → Int32 → Int32 → Int64 → Sg → Option (Int32 × Sg)) (hrs : ∀ (v1 : Int32) (v3 : Int32) (v4 : Int32) (v5 : Int64) (σ : Sg) (r : Int32) (σ2 : Sg), rs v1 v3 v4 v5 σ = some (r, σ2) → Ev MT CT d0 41 [.ref 61, .int v1, .ref 81, .int v3, .int v4, .long v5] σ (fun v s => v = some (.int r) ∧ s = σ2)) {d : Nat} (hd : 0 ≤ d) (hd0 : d0 + 0 ≤ d) : ∀ (n : Nat) (v1 : Int32) (v3 : Int32) (v4 : Int32) (v5 : Int64) (v7 : Int32) (v8 : Int32) (σ : Sg) (r : Int32) (σ2 : Sg), j_hasPure_61_81_L50 rs n v1 v3 v4 v5 v7 v8 σ = some (r, σ2) → Rc none (Ev MT CT d) sg41 (50, [(0, .ref 61), (1, .int v1), (2, .ref 81), (3, .int v3), (4, .int v4), (5, .long v5), (7, .int v7), (8, .int v8)], [], σ) (fun v s => v = some (.int r) ∧ s = σ2)
  | 0, _, _, _, _, _, _, _, _, _, h => by cases h
  | n + 1, v1, v3, v4, v5, v7, v8, σ, r, σ2, h => j_hasPure_61_81_H50_ok d0 rs hrs hd hd0 (j_hasPure_61_81_L50_ok d0 rs hrs hd hd0 n) v1 v3 v4 v5 v7 v8 σ r σ2 h
theorem j_hasPure_61_81_b43_ok (d0 : Nat) (rs : Int32 → Int32 → Int32 → Int64 → Sg → Option (Int32 × Sg)) (hrs : ∀ (v1 : Int32) (v3 : Int32) (v4 : Int32) (v5 : Int64) (σ : Sg) (r : Int32) (σ2 : Sg), rs v1 v3 v4 v5 σ = some (r, σ2) → Ev MT CT d0 41 [.ref 61, .int v1, .ref 81, .int v3, .int v4, .long v5] σ (fun v s => v = some (.int r) ∧ s = σ2)) {d : Nat} (hd : 0 ≤ d) (hd0 : d0 + 0 ≤ d) (v1 : Int32) (v3 : Int32) (v4 : Int32) (v5 : Int64) (s0 : Int32) (σ : Sg) (r : Int32) (σ2 : Sg) (h : j_hasPure_61_81_b43 rs v1 v3 v4 v5 s0 σ = some (r, σ2)) : Rc none (Ev MT CT d) sg41 (43, [(0, .ref 61), (1, .int v1), (2, .ref 81), (3, .int v3), (4, .int v4), (5, .long v5)], [.int s0], σ) (fun v s => v = some (.int r) ∧ s = σ2) := by
  unfold j_hasPure_61_81_b43 at h
  refine Rc.blk (c := []) (s2 := (50, [(8, .int (-v4)), (7, .int s0), (0, .ref 61), (1, .int v1), (2, .ref 81), (3, .int v3), (4, .int v4), (5, .long v5)], [], σ)) 10 rfl rfl (trivial) ?_
  refine Rc.pick [2, 3, 4, 5, 6, 7, 1, 0] (lv2 := [(0, .ref 61), (1, .int v1), (2, .ref 81), (3, .int v3), (4, .int v4), (5, .long v5), (7, .int s0), (8, .int (-v4))]) rfl ?_
  exact j_hasPure_61_81_L50_ok d0 rs hrs hd hd0 fu _ _ _ _ _ _ _ _ _ h
theorem j_hasPure_61_81_b42_ok (d0 : Nat) (rs : Int32 → Int32 → Int32 → Int64 → Sg → Option (Int32 × Sg)) (hrs : ∀ (v1 : Int32) (v3 : Int32) (v4 : Int32) (v5 : Int64) (σ : Sg) (r : Int32) (σ2 : Sg), rs v1 v3 v4 v5 σ = some (r, σ2) → Ev MT CT d0 41 [.ref 61, .int v1, .ref 81, .int v3, .int v4, .long v5] σ (fun v s => v = some (.int r) ∧ s = σ2)) {d : Nat} (hd : 0 ≤ d) (hd0 : d0 + 0 ≤ d) (v1 : Int32) (v3 : Int32) (v4 : Int32) (v5 : Int64) (σ : Sg) (r : Int32) (σ2 : Sg) (h : j_hasPure_61_81_b42 rs v1 v3 v4 v5 σ = some (r, σ2)) : Rc none (Ev MT CT d) sg41 (42, [(0, .ref 61), (1, .int v1), (2, .ref 81), (3, .int v3), (4, .int v4), (5, .long v5)], [], σ) (fun v s => v = some (.int r) ∧ s = σ2) := by
  unfold j_hasPure_61_81_b42 at h
  refine Rc.blk (c := []) (s2 := (43, [(0, .ref 61), (1, .int v1), (2, .ref 81), (3, .int v3), (4, .int v4), (5, .long v5)], [.int 1], σ)) 9 rfl rfl (trivial) ?_
  exact j_hasPure_61_81_b43_ok d0 rs hrs hd hd0 _ _ _ _ _ _ _ _ h
theorem j_hasPure_61_81_b22_ok (d0 : Nat) (rs : Int32 → Int32 → Int32 → Int64 → Sg → Option (Int32 × Sg)) (hrs : ∀ (v1 : Int32) (v3 : Int32) (v4 : Int32) (v5 : Int64) (σ : Sg) (r : Int32) (σ2 : Sg), rs v1 v3 v4 v5 σ = some (r, σ2) → Ev MT CT d0 41 [.ref 61, .int v1, .ref 81, .int v3, .int v4, .long v5] σ (fun v s => v = some (.int r) ∧ s = σ2)) {d : Nat} (hd : 0 ≤ d) (hd0 : d0 + 0 ≤ d) (s0 : Int32) (σ : Sg) (r : Int32) (σ2 : Sg) (h : j_hasPure_61_81_b22 rs s0 σ = some (r, σ2)) : Rc none (Ev MT CT d) sg41 (22, [], [.int s0], σ) (fun v s => v = some (.int r) ∧ s = σ2) := by
  unfold j_hasPure_61_81_b22 at h
  obtain ⟨g, h⟩ := gd_some h
  obtain ⟨rfl, rfl⟩ := some_pair h
  exact Rc.ret 5 rfl rfl rfl (nbB_ok g) ⟨rfl, rfl⟩
theorem j_hasPure_61_81_b21_ok (d0 : Nat) (rs : Int32 → Int32 → Int32 → Int64 → Sg → Option (Int32 × Sg)) (hrs : ∀ (v1 : Int32) (v3 : Int32) (v4 : Int32) (v5 : Int64) (σ : Sg) (r : Int32) (σ2 : Sg), rs v1 v3 v4 v5 σ = some (r, σ2) → Ev MT CT d0 41 [.ref 61, .int v1, .ref 81, .int v3, .int v4, .long v5] σ (fun v s => v = some (.int r) ∧ s = σ2)) {d : Nat} (hd : 0 ≤ d) (hd0 : d0 + 0 ≤ d) (σ : Sg) (r : Int32) (σ2 : Sg) (h : j_hasPure_61_81_b21 rs σ = some (r, σ2)) : Rc none (Ev MT CT d) sg41 (21, [], [], σ) (fun v s => v = some (.int r) ∧ s = σ2) := by
  unfold j_hasPure_61_81_b21 at h
  refine Rc.blk (c := []) (s2 := (22, [], [.int 0], σ)) 4 rfl rfl (trivial) ?_
  exact j_hasPure_61_81_b22_ok d0 rs hrs hd hd0 _ _ _ _ h
theorem j_hasPure_61_81_H_ok (d0 : Nat) (rs : Int32 → Int32 → Int32 → Int64 → Sg → Option (Int32 × Sg)) (hrs : ∀ (v1 : Int32) (v3 : Int32) (v4 : Int32) (v5 : Int64) (σ : Sg) (r : Int32) (σ2 : Sg), rs v1 v3 v4 v5 σ = some (r, σ2) → Ev MT CT d0 41 [.ref 61, .int v1, .ref 81, .int v3, .int v4, .long v5] σ (fun v s => v = some (.int r) ∧ s = σ2)) {d : Nat} (hd : 1 ≤ d) (hd0 : d0 + 1 ≤ d) {v1 : Int32} {v3 : Int32} {v4 : Int32} {v5 : Int64} {σ : Sg} {r : Int32} {σ2 : Sg} (h : j_hasPure_61_81_H rs v1 v3 v4 v5 σ = some (r, σ2)) : Ev MT CT d 41 [.ref 61, .int v1, .ref 81, .int v3, .int v4, .long v5] σ (fun v s => v = some (.int r) ∧ s = σ2) := by
  obtain ⟨d, rfl⟩ : ∃ e, d = e + 1 := ⟨d - 1, by omega⟩
  refine ⟨Nat.le_of_ble_eq_true rfl, ?_⟩
  show Rc none (Ev MT CT d) sg41 (0, [(0, .ref 61), (1, .int v1), (2, .ref 81), (3, .int v3), (4, .int v4), (5, .long v5)], [], σ) _
  unfold j_hasPure_61_81_H at h
  have hd : 0 ≤ d := by omega
  have hd0 : d0 + 0 ≤ d := by omega
  refine Rc.blk (c := []) (s2 := (if v3 < v1 then 23 else 5, [(0, .ref 61), (1, .int v1), (2, .ref 81), (3, .int v3), (4, .int v4), (5, .long v5)], [], σ)) 0 rfl rfl (trivial) ?_
  by_cases c5 : v3 < v1
  · rw [if_pos c5] at h
    refine Rc.ifp c5 ?_
    refine Rc.blk (c := []) (s2 := (if ¬ v3 = (v1 - 1) then 42 else 30, [(0, .ref 61), (1, .int v1), (2, .ref 81), (3, .int v3), (4, .int v4), (5, .long v5)], [], σ)) 6 rfl rfl (trivial) ?_
    by_cases c2 : v3 = (v1 - 1)
    · rw [if_pos c2] at h
      refine Rc.ifn (fun q => q c2) ?_
      refine Rc.blk (c := []) (s2 := (if v4 ≤ 0 then 42 else 35, [(0, .ref 61), (1, .int v1), (2, .ref 81), (3, .int v3), (4, .int v4), (5, .long v5)], [], σ)) 7 rfl rfl (trivial) ?_
      by_cases c1 : v4 ≤ 0
      · rw [if_pos c1] at h
        refine Rc.ifp c1 ?_
        exact j_hasPure_61_81_b42_ok d0 rs hrs hd hd0 _ _ _ _ _ _ _ h
      · rw [if_neg c1] at h
        refine Rc.ifn c1 ?_
        refine Rc.blk (c := []) (s2 := (43, [(0, .ref 61), (1, .int v1), (2, .ref 81), (3, .int v3), (4, .int v4), (5, .long v5)], [.int (2 * v4)], σ)) 8 rfl rfl (trivial) ?_
        exact j_hasPure_61_81_b43_ok d0 rs hrs hd hd0 _ _ _ _ _ _ _ _ h
    · rw [if_neg c2] at h
      refine Rc.ifp c2 ?_
      exact j_hasPure_61_81_b42_ok d0 rs hrs hd hd0 _ _ _ _ _ _ _ h
  · rw [if_neg c5] at h
    refine Rc.ifn c5 ?_
    refine Rc.blk (c := []) (s2 := (if ¬ v4 = 0 then 21 else 10, [(0, .ref 61), (1, .int v1), (2, .ref 81), (3, .int v3), (4, .int v4), (5, .long v5)], [], σ)) 1 rfl rfl (trivial) ?_
    by_cases c4 : v4 = 0
    · rw [if_pos c4] at h
      refine Rc.ifn (fun q => q c4) ?_
      refine Rc.blk (c := []) (s2 := (if ¬ (lg_cmp v5 0) = 0 then 21 else 17, [(0, .ref 61), (1, .int v1), (2, .ref 81), (3, .int v3), (4, .int v4), (5, .long v5)], [], σ)) 2 rfl rfl (trivial) ?_
      by_cases c3 : (lg_cmp v5 0) = 0
      · rw [if_pos c3] at h
        refine Rc.ifn (fun q => q c3) ?_
        refine Rc.blk (c := []) (s2 := (22, [(0, .ref 61), (1, .int v1), (2, .ref 81), (3, .int v3), (4, .int v4), (5, .long v5)], [.int 1], σ)) 3 rfl rfl (trivial) ?_
        refine Rc.pick [] (lv2 := []) rfl ?_
        exact j_hasPure_61_81_b22_ok d0 rs hrs hd hd0 _ _ _ _ h
      · rw [if_neg c3] at h
        refine Rc.ifp c3 ?_
        refine Rc.pick [] (lv2 := []) rfl ?_
        exact j_hasPure_61_81_b21_ok d0 rs hrs hd hd0 _ _ _ h
    · rw [if_neg c4] at h
      refine Rc.ifp c4 ?_
      refine Rc.pick [] (lv2 := []) rfl ?_
      exact j_hasPure_61_81_b21_ok d0 rs hrs hd hd0 _ _ _ h
theorem j_hasPure_61_81_lv : ∀ (n : Nat) (v1 : Int32) (v3 : Int32) (v4 : Int32) (v5 : Int64) (σ : Sg) (r : Int32) (σ2 : Sg), j_hasPure_61_81 n v1 v3 v4 v5 σ = some (r, σ2) → Ev MT CT (1 + 1 * n) 41 [.ref 61, .int v1, .ref 81, .int v3, .int v4, .long v5] σ (fun v s => v = some (.int r) ∧ s = σ2)
  | 0, _, _, _, _, _, _, _, h => by cases h
  | n + 1, v1, v3, v4, v5, σ, r, σ2, h => j_hasPure_61_81_H_ok (1 + 1 * n) (j_hasPure_61_81 n) (j_hasPure_61_81_lv n) (by omega) (by omega) h
theorem j_hasPure_61_81_top {d : Nat} (hd : 13 ≤ d) {v1 : Int32} {v3 : Int32} {v4 : Int32} {v5 : Int64} {σ : Sg} {r : Int32} {σ2 : Sg} (h : j_hasPure_61_81 12 v1 v3 v4 v5 σ = some (r, σ2)) : Ev MT CT d 41 [.ref 61, .int v1, .ref 81, .int v3, .int v4, .long v5] σ (fun v s => v = some (.int r) ∧ s = σ2) := Ev.le (by omega) (j_hasPure_61_81_lv 12 v1 v3 v4 v5 σ r σ2 h)
theorem j_findLeast_80_b102_ok {d : Nat} (hd : 13 ≤ d) (σ : Sg) (r : Unit) (σ2 : Sg) (h : j_findLeast_80_b102 σ = some (r, σ2)) : Rc none (Ev MT CT d) sg40 (102, [], [], σ) (fun v s => v = none ∧ s = σ2) := by
  unfold j_findLeast_80_b102 at h
  obtain ⟨rfl, rfl⟩ := some_pair h
  exact Rc.ret 15 rfl rfl rfl trivial ⟨rfl, rfl⟩
theorem j_findLeast_80_b96_ok {d : Nat} (hd : 13 ≤ d) {k41 : Int32 → Sg → Option (Unit × Sg)} (hk41 : ∀ (v1 : Int32) (σ : Sg) (r : Unit) (σ2 : Sg), k41 v1 σ = some (r, σ2) → Rc none (Ev MT CT d) sg40 (41, [(0, .ref 80), (1, .int v1)], [], σ) (fun v s => v = none ∧ s = σ2)) (v1 : Int32) (σ : Sg) (r : Unit) (σ2 : Sg) (h : j_findLeast_80_b96 k41 v1 σ = some (r, σ2)) : Rc none (Ev MT CT d) sg40 (96, [(0, .ref 80), (1, .int v1)], [], σ) (fun v s => v = none ∧ s = σ2) := by
  unfold j_findLeast_80_b96 at h
  refine Rc.blk (c := []) (s2 := (41, [(1, .int (v1 + 1)), (0, .ref 80)], [], σ)) 14 rfl rfl (trivial) ?_
  refine Rc.pick [1, 0] (lv2 := [(0, .ref 80), (1, .int (v1 + 1))]) rfl ?_
  exact hk41 _ _ _ _ h
theorem j_findLeast_80_H41_ok {d : Nat} (hd : 13 ≤ d) {k41 : Int32 → Sg → Option (Unit × Sg)} (hk41 : ∀ (v1 : Int32) (σ : Sg) (r : Unit) (σ2 : Sg), k41 v1 σ = some (r, σ2) → Rc none (Ev MT CT d) sg40 (41, [(0, .ref 80), (1, .int v1)], [], σ) (fun v s => v = none ∧ s = σ2)) (v1 : Int32) (σ : Sg) (r : Unit) (σ2 : Sg) (h : j_findLeast_80_H41 k41 v1 σ = some (r, σ2)) : Rc none (Ev MT CT d) sg40 (41, [(0, .ref 80), (1, .int v1)], [], σ) (fun v s => v = none ∧ s = σ2) := by
  unfold j_findLeast_80_H41 at h
  refine Rc.blk (c := []) (s2 := (if 6 < v1 then 102 else 47, [(0, .ref 80), (1, .int v1)], [], σ)) 5 rfl rfl (trivial) ?_
  by_cases c6 : 6 < v1
  · rw [if_pos c6] at h
    refine Rc.ifp c6 ?_
    refine Rc.pick [] (lv2 := []) rfl ?_
    exact j_findLeast_80_b102_ok hd _ _ _ h
  · rw [if_neg c6] at h
    refine Rc.ifn c6 ?_
    refine Rc.blk (c := [_]) (s2 := (if ¬ (σ.1 80 2) = 0 then 102 else 54, [(0, .ref 80), (1, .int v1)], [], σ)) 6 rfl rfl (conj_c (rfl) (trivial)) ?_
    by_cases c5 : (σ.1 80 2) = 0
    · rw [if_pos c5] at h
      refine Rc.ifn (fun q => q c5) ?_
      refine Rc.blk (c := [_]) (s2 := (58, [(0, .ref 80), (1, .int v1)], [.ref 51], σ)) 7 rfl rfl (conj_c (rfl) (trivial)) ?_
      obtain ⟨r1, σ1, hc, h⟩ := bd_some h
      refine Rc.call (Ev.mono d) (v := some (.int r1)) (as := [.ref 51]) (r := []) 8 rfl rfl rfl rfl ⟨rfl, Nat.le_of_ble_eq_true rfl⟩ (j_looseSet_51_ok (by omega) hc) ?_
      show Rc _ _ _ (61, [(0, .ref 80), (1, .int v1)], [.int r1], σ1) _
      refine Rc.blk (c := []) (s2 := (if r1 = 0 then 102 else 64, [(0, .ref 80), (1, .int v1)], [], σ1)) 9 rfl rfl (trivial) ?_
      by_cases c4 : r1 = 0
      · rw [if_pos c4] at h
        refine Rc.ifp c4 ?_
        refine Rc.pick [] (lv2 := []) rfl ?_
        exact j_findLeast_80_b102_ok hd _ _ _ h
      · rw [if_neg c4] at h
        refine Rc.ifn c4 ?_
        refine Rc.blk (c := [_, _, _, _, _]) (s2 := (85, [(0, .ref 80), (1, .int v1)], [.long 0, .int v1, .int 0, .ref 81, .int (σ1.1 51 0), .ref 61], σ1)) 10 rfl rfl (conj_c (rfl) (conj_c (rfl) (conj_c (rfl) (conj_c (rfl) (conj_c (rfl) (trivial)))))) ?_
        obtain ⟨r2, σ2, hc, h⟩ := bd_some h
        refine Rc.call (Ev.mono d) (v := some (.int r2)) (as := [.ref 61, .int (σ1.1 51 0), .ref 81, .int 0, .int v1, .long 0]) (r := []) 11 rfl rfl rfl rfl (Nat.le_of_ble_eq_true rfl) (j_hasPure_61_81_top (by omega) hc) ?_
        show Rc _ _ _ (88, [(0, .ref 80), (1, .int v1)], [.int r2], σ2) _
        refine Rc.blk (c := []) (s2 := (if r2 = 0 then 96 else 91, [(0, .ref 80), (1, .int v1)], [], σ2)) 12 rfl rfl (trivial) ?_
        by_cases c3 : r2 = 0
        · rw [if_pos c3] at h
          refine Rc.ifp c3 ?_
          exact j_findLeast_80_b96_ok hd hk41 _ _ _ _ h
        · rw [if_neg c3] at h
          refine Rc.ifn c3 ?_
          refine Rc.blk (c := [_]) (s2 := (96, [(0, .ref 80), (1, .int v1)], [], si σ2 80 2 v1)) 13 rfl rfl (conj_c (rfl) (trivial)) ?_
          exact j_findLeast_80_b96_ok hd hk41 _ _ _ _ h
    · rw [if_neg c5] at h
      refine Rc.ifp c5 ?_
      refine Rc.pick [] (lv2 := []) rfl ?_
      exact j_findLeast_80_b102_ok hd _ _ _ h
theorem j_findLeast_80_L41_ok {d : Nat} (hd : 13 ≤ d) : ∀ (n : Nat) (v1 : Int32) (σ : Sg) (r : Unit) (σ2 : Sg), j_findLeast_80_L41 n v1 σ = some (r, σ2) → Rc none (Ev MT CT d) sg40 (41, [(0, .ref 80), (1, .int v1)], [], σ) (fun v s => v = none ∧ s = σ2)
  | 0, _, _, _, _, h => by cases h
  | n + 1, v1, σ, r, σ2, h => j_findLeast_80_H41_ok hd (j_findLeast_80_L41_ok hd n) v1 σ r σ2 h
theorem j_findLeast_80_ok {d : Nat} (hd : 14 ≤ d) {σ : Sg} {r : Unit} {σ2 : Sg} (h : j_findLeast_80 σ = some (r, σ2)) : Ev MT CT d 40 [.ref 80] σ (fun v s => v = none ∧ s = σ2) := by
  obtain ⟨d, rfl⟩ : ∃ e, d = e + 1 := ⟨d - 1, by omega⟩
  refine ⟨Nat.le_of_ble_eq_true rfl, ?_⟩
  show Rc none (Ev MT CT d) sg40 (0, [(0, .ref 80)], [], σ) _
  unfold j_findLeast_80 at h
  have hd : 13 ≤ d := by omega
  refine Rc.blk (c := [_, _, _]) (s2 := (if ¬ (σ.1 80 3) = (σ.1 51 1) then 15 else 14, [(0, .ref 80)], [], σ)) 0 rfl rfl (conj_c (rfl) (conj_c (rfl) (conj_c (rfl) (trivial)))) ?_
  by_cases c2 : (σ.1 80 3) = (σ.1 51 1)
  · rw [if_pos c2] at h
    refine Rc.ifn (fun q => q c2) ?_
    obtain ⟨rfl, rfl⟩ := some_pair h
    exact Rc.ret 1 rfl rfl rfl trivial ⟨rfl, rfl⟩
  · rw [if_neg c2] at h
    refine Rc.ifp c2 ?_
    refine Rc.blk (c := [_, _, _, _, _]) (s2 := (36, [(0, .ref 80)], [.int 0, .ref 81], si (si σ 80 3 (σ.1 51 1)) 80 2 0)) 2 rfl rfl (conj_c (rfl) (conj_c (rfl) (conj_c (rfl) (conj_c (rfl) (conj_c (rfl) (trivial)))))) ?_
    obtain ⟨r1, σ1, hc, h⟩ := bd_some h
    refine Rc.call (Ev.mono d) (v := none) (as := [.ref 81, .int 0]) (r := []) 3 rfl rfl rfl rfl (Nat.le_of_ble_eq_true rfl) (j_fillAII_81_ok (by omega) hc) ?_
    show Rc _ _ _ (39, [(0, .ref 80)], [], σ1) _
    refine Rc.blk (c := []) (s2 := (41, [(1, .int 1), (0, .ref 80)], [], σ1)) 4 rfl rfl (trivial) ?_
    refine Rc.pick [1, 0] (lv2 := [(0, .ref 80), (1, .int 1)]) rfl ?_
    exact j_findLeast_80_L41_ok hd fu _ _ _ _ h
theorem j_least_0_b50_ok {d : Nat} (hd : 14 ≤ d) (s0 : Int32) (σ : Sg) (r : Int32) (σ2 : Sg) (h : j_least_0_b50 s0 σ = some (r, σ2)) : Rc none (Ev MT CT d) sg68 (50, [], [.int s0], σ) (fun v s => v = some (.int r) ∧ s = σ2) := by
  unfold j_least_0_b50 at h
  obtain ⟨rfl, rfl⟩ := some_pair h
  exact Rc.ret 12 rfl rfl rfl trivial ⟨rfl, rfl⟩
theorem j_least_0_b19_ok {d : Nat} (hd : 14 ≤ d) (v1 : Int32) (σ : Sg) (r : Int32) (σ2 : Sg) (h : j_least_0_b19 v1 σ = some (r, σ2)) : Rc none (Ev MT CT d) sg68 (19, [(0, .ref 0), (1, .int v1)], [], σ) (fun v s => v = some (.int r) ∧ s = σ2) := by
  unfold j_least_0_b19 at h
  refine Rc.blk (c := [_]) (s2 := (23, [(0, .ref 0), (1, .int v1)], [.ref 80], σ)) 7 rfl rfl (conj_c (rfl) (trivial)) ?_
  obtain ⟨r1, σ1, hc, h⟩ := bd_some h
  refine Rc.call (Ev.mono d) (v := none) (as := [.ref 80]) (r := []) 8 rfl rfl rfl rfl ⟨rfl, Nat.le_of_ble_eq_true rfl⟩ (j_findLeast_80_ok (by omega) hc) ?_
  show Rc _ _ _ (26, [(0, .ref 0), (1, .int v1)], [], σ1) _
  refine Rc.blk (c := []) (s2 := (if ¬ v1 = (-1) then 41 else 31, [(0, .ref 0), (1, .int v1)], [], σ1)) 9 rfl rfl (trivial) ?_
  by_cases c3 : v1 = (-1)
  · rw [if_pos c3] at h
    refine Rc.ifn (fun q => q c3) ?_
    refine Rc.blk (c := [_, _]) (s2 := (50, [(0, .ref 0), (1, .int v1)], [.int (σ1.1 80 2)], σ1)) 10 rfl rfl (conj_c (rfl) (conj_c (rfl) (trivial))) ?_
    refine Rc.pick [] (lv2 := []) rfl ?_
    exact j_least_0_b50_ok hd _ _ _ _ h
  · rw [if_neg c3] at h
    refine Rc.ifp c3 ?_
    obtain ⟨g2, h⟩ := gd_some h
    refine Rc.blk (c := [_, _, _]) (s2 := (50, [(0, .ref 0), (1, .int v1)], [.int (σ1.1 81 v1.toNatClampNeg)], σ1)) 11 rfl rfl (conj_c (rfl) (conj_c (rfl) (conj_c (⟨rfl, inB_in g2⟩) (trivial)))) ?_
    refine Rc.pick [] (lv2 := []) rfl ?_
    exact j_least_0_b50_ok hd _ _ _ _ h
theorem j_least_0_ok {d : Nat} (hd : 15 ≤ d) {v1 : Int32} {σ : Sg} {r : Int32} {σ2 : Sg} (h : j_least_0 v1 σ = some (r, σ2)) : Ev MT CT d 68 [.ref 0, .int v1] σ (fun v s => v = some (.int r) ∧ s = σ2) := by
  obtain ⟨d, rfl⟩ : ∃ e, d = e + 1 := ⟨d - 1, by omega⟩
  refine ⟨Nat.le_of_ble_eq_true rfl, ?_⟩
  show Rc none (Ev MT CT d) sg68 (0, [(0, .ref 0), (1, .int v1)], [], σ) _
  unfold j_least_0 at h
  have hd : 14 ≤ d := by omega
  refine Rc.blk (c := []) (s2 := (if v1 = (-1) then 19 else 5, [(0, .ref 0), (1, .int v1)], [], σ)) 0 rfl rfl (trivial) ?_
  by_cases c4 : v1 = (-1)
  · rw [if_pos c4] at h
    refine Rc.ifp c4 ?_
    exact j_least_0_b19_ok hd _ _ _ _ h
  · rw [if_neg c4] at h
    refine Rc.ifn c4 ?_
    refine Rc.blk (c := []) (s2 := (7, [(0, .ref 0), (1, .int v1)], [.int v1, .ref 0], σ)) 1 rfl rfl (trivial) ?_
    obtain ⟨r1, σ1, hc, h⟩ := bd_some h
    refine Rc.call (Ev.mono d) (v := some (.int r1)) (as := [.ref 0, .int v1]) (r := []) 2 rfl rfl rfl rfl ⟨rfl, Nat.le_of_ble_eq_true rfl⟩ (j_isQuantity_0_ok (by omega) hc) ?_
    show Rc _ _ _ (10, [(0, .ref 0), (1, .int v1)], [.int r1], σ1) _
    refine Rc.blk (c := []) (s2 := (if ¬ r1 = 0 then 19 else 13, [(0, .ref 0), (1, .int v1)], [], σ1)) 3 rfl rfl (trivial) ?_
    by_cases c3 : r1 = 0
    · rw [if_pos c3] at h
      refine Rc.ifn (fun q => q c3) ?_
      refine Rc.blk (c := []) (s2 := (15, [(0, .ref 0), (1, .int v1)], [.int (-1), .ref 0], σ1)) 4 rfl rfl (trivial) ?_
      obtain ⟨r2, σ2, hc, h⟩ := bd_some h
      refine Rc.call (Ev.mono d) (v := some (.int r2)) (as := [.ref 0, .int (-1)]) (r := []) 5 rfl rfl rfl rfl ⟨rfl, Nat.le_of_ble_eq_true rfl⟩ (j_refusedFar_0_ok (by omega) hc) ?_
      show Rc _ _ _ (18, [(0, .ref 0), (1, .int v1)], [.int r2], σ2) _
      obtain ⟨rfl, rfl⟩ := some_pair h
      exact Rc.ret 6 rfl rfl rfl trivial ⟨rfl, rfl⟩
    · rw [if_neg c3] at h
      refine Rc.ifp c3 ?_
      exact j_least_0_b19_ok hd _ _ _ _ h
theorem j_bitCount_s_ok {d : Nat} (hd : 1 ≤ d) {v0 : Int32} {σ : Sg} {r : Int32} {σ2 : Sg} (h : j_bitCount_s v0 σ = some (r, σ2)) : Ev MT CT d 228 [.int v0] σ (fun v s => v = some (.int r) ∧ s = σ2) := by
  obtain ⟨d, rfl⟩ : ∃ e, d = e + 1 := ⟨d - 1, by omega⟩
  refine ⟨Nat.le_of_ble_eq_true rfl, ?_⟩
  show Rc none (Ev MT CT d) sg228 (0, [(0, .int v0)], [], σ) _
  unfold j_bitCount_s at h
  have hd : 0 ≤ d := by omega
  refine Rc.blk (c := []) (s2 := (52, [(0, .int (((((((v0 - ((iush v0 1) &&& 1431655765)) &&& 858993459) + ((iush (v0 - ((iush v0 1) &&& 1431655765)) 2) &&& 858993459)) + (iush (((v0 - ((iush v0 1) &&& 1431655765)) &&& 858993459) + ((iush (v0 - ((iush v0 1) &&& 1431655765)) 2) &&& 858993459)) 4)) &&& 252645135) + (iush (((((v0 - ((iush v0 1) &&& 1431655765)) &&& 858993459) + ((iush (v0 - ((iush v0 1) &&& 1431655765)) 2) &&& 858993459)) + (iush (((v0 - ((iush v0 1) &&& 1431655765)) &&& 858993459) + ((iush (v0 - ((iush v0 1) &&& 1431655765)) 2) &&& 858993459)) 4)) &&& 252645135) 8)) + (iush ((((((v0 - ((iush v0 1) &&& 1431655765)) &&& 858993459) + ((iush (v0 - ((iush v0 1) &&& 1431655765)) 2) &&& 858993459)) + (iush (((v0 - ((iush v0 1) &&& 1431655765)) &&& 858993459) + ((iush (v0 - ((iush v0 1) &&& 1431655765)) 2) &&& 858993459)) 4)) &&& 252645135) + (iush (((((v0 - ((iush v0 1) &&& 1431655765)) &&& 858993459) + ((iush (v0 - ((iush v0 1) &&& 1431655765)) 2) &&& 858993459)) + (iush (((v0 - ((iush v0 1) &&& 1431655765)) &&& 858993459) + ((iush (v0 - ((iush v0 1) &&& 1431655765)) 2) &&& 858993459)) 4)) &&& 252645135) 8)) 16)))], [.int ((((((((v0 - ((iush v0 1) &&& 1431655765)) &&& 858993459) + ((iush (v0 - ((iush v0 1) &&& 1431655765)) 2) &&& 858993459)) + (iush (((v0 - ((iush v0 1) &&& 1431655765)) &&& 858993459) + ((iush (v0 - ((iush v0 1) &&& 1431655765)) 2) &&& 858993459)) 4)) &&& 252645135) + (iush (((((v0 - ((iush v0 1) &&& 1431655765)) &&& 858993459) + ((iush (v0 - ((iush v0 1) &&& 1431655765)) 2) &&& 858993459)) + (iush (((v0 - ((iush v0 1) &&& 1431655765)) &&& 858993459) + ((iush (v0 - ((iush v0 1) &&& 1431655765)) 2) &&& 858993459)) 4)) &&& 252645135) 8)) + (iush ((((((v0 - ((iush v0 1) &&& 1431655765)) &&& 858993459) + ((iush (v0 - ((iush v0 1) &&& 1431655765)) 2) &&& 858993459)) + (iush (((v0 - ((iush v0 1) &&& 1431655765)) &&& 858993459) + ((iush (v0 - ((iush v0 1) &&& 1431655765)) 2) &&& 858993459)) 4)) &&& 252645135) + (iush (((((v0 - ((iush v0 1) &&& 1431655765)) &&& 858993459) + ((iush (v0 - ((iush v0 1) &&& 1431655765)) 2) &&& 858993459)) + (iush (((v0 - ((iush v0 1) &&& 1431655765)) &&& 858993459) + ((iush (v0 - ((iush v0 1) &&& 1431655765)) 2) &&& 858993459)) 4)) &&& 252645135) 8)) 16)) &&& 63)], σ)) 0 rfl rfl (trivial) ?_
  obtain ⟨rfl, rfl⟩ := some_pair h
  exact Rc.ret 1 rfl rfl rfl trivial ⟨rfl, rfl⟩
set_option maxRecDepth 100000 in
theorem j_bringUp_71_H25_ok {d : Nat} (hd : 0 ≤ d) {k25 : Int32 → Int32 → Sg → Option (Int32 × Sg)} (hk25 : ∀ (v2 : Int32) (v3 : Int32) (σ : Sg) (r : Int32) (σ2 : Sg), k25 v2 v3 σ = some (r, σ2) → Rc none (Ev MT CT d) sg5 (25, [(0, .ref 71), (2, .int v2), (3, .int v3)], [], σ) (fun v s => v = some (.int r) ∧ s = σ2)) (v2 : Int32) (v3 : Int32) (σ : Sg) (r : Int32) (σ2 : Sg) (h : j_bringUp_71_H25 k25 v2 v3 σ = some (r, σ2)) : Rc none (Ev MT CT d) sg5 (25, [(0, .ref 71), (2, .int v2), (3, .int v3)], [], σ) (fun v s => v = some (.int r) ∧ s = σ2) := by
  unfold j_bringUp_71_H25 at h
  refine Rc.blk (c := [_]) (s2 := (if (σ.1 71 2) ≤ v3 then 81 else 33, [(0, .ref 71), (2, .int v2), (3, .int v3)], [], σ)) 4 rfl rfl (conj_c (rfl) (trivial)) ?_
  by_cases c9 : (σ.1 71 2) ≤ v3
  · rw [if_pos c9] at h
    refine Rc.ifp c9 ?_
    refine Rc.blk (c := []) (s2 := (82, [(0, .ref 71), (2, .int v2), (3, .int v3)], [.int 1], σ)) 6 rfl rfl (trivial) ?_
    obtain ⟨rfl, rfl⟩ := some_pair h
    exact Rc.ret 7 rfl rfl rfl (Or.inr rfl) ⟨rfl, rfl⟩
  · rw [if_neg c9] at h
    refine Rc.ifn c9 ?_
    obtain ⟨g1, h⟩ := gd_some h
    obtain ⟨g2, h⟩ := gd_some h
    obtain ⟨g3, h⟩ := gd_some h
    obtain ⟨g4, h⟩ := gd_some h
    obtain ⟨g5, h⟩ := gd_some h
    obtain ⟨g6, h⟩ := gd_some h
    obtain ⟨g7, h⟩ := gd_some h
    obtain ⟨g8, h⟩ := gd_some h
    refine Rc.blk (c := [_, _, _, _, _, _, _, _, _, _, _, _, _, _]) (s2 := (25, [(3, .int (v3 + 1)), (4, .long (σ.2 (72 + 1 + v2.toNatClampNeg) v3.toNatClampNeg)), (0, .ref 71), (2, .int v2)], [], sl (sl σ (72 + 1 + v2.toNatClampNeg) v3.toNatClampNeg (σ.2 (72 + 1 + (σ.1 71 3).toNatClampNeg) v3.toNatClampNeg)) (72 + 1 + ((sl σ (72 + 1 + v2.toNatClampNeg) v3.toNatClampNeg (σ.2 (72 + 1 + (σ.1 71 3).toNatClampNeg) v3.toNatClampNeg)).1 71 3).toNatClampNeg) v3.toNatClampNeg (σ.2 (72 + 1 + v2.toNatClampNeg) v3.toNatClampNeg))) 5 rfl rfl (conj_c (rfl) (conj_c (⟨Or.inr rfl, inB_in g1⟩) (conj_c (arB_in g2) (conj_c (rfl) (conj_c (⟨Or.inr rfl, inB_in g3⟩) (conj_c (rfl) (conj_c (rfl) (conj_c (⟨Or.inr rfl, inB_in g4⟩) (conj_c (arB_in g5) (conj_c (arB_in g6) (conj_c (rfl) (conj_c (rfl) (conj_c (⟨Or.inr rfl, inB_in g7⟩) (conj_c (arB_in g8) (trivial))))))))))))))) ?_
    refine Rc.pick [2, 3, 0] (lv2 := [(0, .ref 71), (2, .int v2), (3, .int (v3 + 1))]) rfl ?_
    exact hk25 _ _ _ _ _ h
theorem j_bringUp_71_L25_ok {d : Nat} (hd : 0 ≤ d) : ∀ (n : Nat) (v2 : Int32) (v3 : Int32) (σ : Sg) (r : Int32) (σ2 : Sg), j_bringUp_71_L25 n v2 v3 σ = some (r, σ2) → Rc none (Ev MT CT d) sg5 (25, [(0, .ref 71), (2, .int v2), (3, .int v3)], [], σ) (fun v s => v = some (.int r) ∧ s = σ2)
  | 0, _, _, _, _, _, h => by cases h
  | n + 1, v2, v3, σ, r, σ2, h => j_bringUp_71_H25_ok hd (j_bringUp_71_L25_ok hd n) v2 v3 σ r σ2 h
theorem j_bringUp_71_H5_ok {d : Nat} (hd : 0 ≤ d) {k5 : Int32 → Int32 → Sg → Option (Int32 × Sg)} (hk5 : ∀ (v1 : Int32) (v2 : Int32) (σ : Sg) (r : Int32) (σ2 : Sg), k5 v1 v2 σ = some (r, σ2) → Rc none (Ev MT CT d) sg5 (5, [(0, .ref 71), (1, .int v1), (2, .int v2)], [], σ) (fun v s => v = some (.int r) ∧ s = σ2)) (v1 : Int32) (v2 : Int32) (σ : Sg) (r : Int32) (σ2 : Sg) (h : j_bringUp_71_H5 k5 v1 v2 σ = some (r, σ2)) : Rc none (Ev MT CT d) sg5 (5, [(0, .ref 71), (1, .int v1), (2, .int v2)], [], σ) (fun v s => v = some (.int r) ∧ s = σ2) := by
  unfold j_bringUp_71_H5 at h
  refine Rc.blk (c := []) (s2 := (if 5 ≤ v2 then 89 else 10, [(0, .ref 71), (1, .int v1), (2, .int v2)], [], σ)) 1 rfl rfl (trivial) ?_
  by_cases c4 : 5 ≤ v2
  · rw [if_pos c4] at h
    refine Rc.ifp c4 ?_
    refine Rc.blk (c := []) (s2 := (90, [(0, .ref 71), (1, .int v1), (2, .int v2)], [.int 0], σ)) 9 rfl rfl (trivial) ?_
    obtain ⟨rfl, rfl⟩ := some_pair h
    exact Rc.ret 10 rfl rfl rfl (Or.inl rfl) ⟨rfl, rfl⟩
  · rw [if_neg c4] at h
    refine Rc.ifn c4 ?_
    obtain ⟨g1, h⟩ := gd_some h
    obtain ⟨g2, h⟩ := gd_some h
    refine Rc.blk (c := [_, _, _]) (s2 := (if (lg_cmp (σ.2 (72 + 1 + v2.toNatClampNeg) v1.toNatClampNeg) 0) = 0 then 83 else 23, [(0, .ref 71), (1, .int v1), (2, .int v2)], [], σ)) 2 rfl rfl (conj_c (rfl) (conj_c (⟨Or.inr rfl, inB_in g1⟩) (conj_c (arB_in g2) (trivial)))) ?_
    by_cases c3 : (lg_cmp (σ.2 (72 + 1 + v2.toNatClampNeg) v1.toNatClampNeg) 0) = 0
    · rw [if_pos c3] at h
      refine Rc.ifp c3 ?_
      refine Rc.blk (c := []) (s2 := (5, [(2, .int (v2 + 1)), (0, .ref 71), (1, .int v1)], [], σ)) 8 rfl rfl (trivial) ?_
      refine Rc.pick [1, 2, 0] (lv2 := [(0, .ref 71), (1, .int v1), (2, .int (v2 + 1))]) rfl ?_
      exact hk5 _ _ _ _ _ h
    · rw [if_neg c3] at h
      refine Rc.ifn c3 ?_
      refine Rc.blk (c := []) (s2 := (25, [(3, .int 0), (0, .ref 71), (1, .int v1), (2, .int v2)], [], σ)) 3 rfl rfl (trivial) ?_
      refine Rc.pick [1, 3, 0] (lv2 := [(0, .ref 71), (2, .int v2), (3, .int 0)]) rfl ?_
      exact j_bringUp_71_L25_ok hd fu _ _ _ _ _ h
theorem j_bringUp_71_L5_ok {d : Nat} (hd : 0 ≤ d) : ∀ (n : Nat) (v1 : Int32) (v2 : Int32) (σ : Sg) (r : Int32) (σ2 : Sg), j_bringUp_71_L5 n v1 v2 σ = some (r, σ2) → Rc none (Ev MT CT d) sg5 (5, [(0, .ref 71), (1, .int v1), (2, .int v2)], [], σ) (fun v s => v = some (.int r) ∧ s = σ2)
  | 0, _, _, _, _, _, h => by cases h
  | n + 1, v1, v2, σ, r, σ2, h => j_bringUp_71_H5_ok hd (j_bringUp_71_L5_ok hd n) v1 v2 σ r σ2 h
theorem j_bringUp_71_ok {d : Nat} (hd : 1 ≤ d) {v1 : Int32} {σ : Sg} {r : Int32} {σ2 : Sg} (h : j_bringUp_71 v1 σ = some (r, σ2)) : Ev MT CT d 5 [.ref 71, .int v1] σ (fun v s => v = some (.int r) ∧ s = σ2) := by
  obtain ⟨d, rfl⟩ : ∃ e, d = e + 1 := ⟨d - 1, by omega⟩
  refine ⟨Nat.le_of_ble_eq_true rfl, ?_⟩
  show Rc none (Ev MT CT d) sg5 (0, [(0, .ref 71), (1, .int v1)], [], σ) _
  unfold j_bringUp_71 at h
  have hd : 0 ≤ d := by omega
  refine Rc.blk (c := [_]) (s2 := (5, [(2, .int (σ.1 71 3)), (0, .ref 71), (1, .int v1)], [], σ)) 0 rfl rfl (conj_c (rfl) (trivial)) ?_
  refine Rc.pick [1, 2, 0] (lv2 := [(0, .ref 71), (1, .int v1), (2, .int (σ.1 71 3))]) rfl ?_
  exact j_bringUp_71_L5_ok hd fu _ _ _ _ _ h
theorem j_clearOthers_71_b115_ok {d : Nat} (hd : 0 ≤ d) {k15 : Int32 → Int64 → Int32 → Sg → Option (Unit × Sg)} (hk15 : ∀ (v1 : Int32) (v2 : Int64) (v4 : Int32) (σ : Sg) (r : Unit) (σ2 : Sg), k15 v1 v2 v4 σ = some (r, σ2) → Rc none (Ev MT CT d) sg6 (15, [(0, .ref 71), (1, .int v1), (2, .long v2), (4, .int v4)], [], σ) (fun v s => v = none ∧ s = σ2)) (v1 : Int32) (v2 : Int64) (v4 : Int32) (σ : Sg) (r : Unit) (σ2 : Sg) (h : j_clearOthers_71_b115 k15 v1 v2 v4 σ = some (r, σ2)) : Rc none (Ev MT CT d) sg6 (115, [(0, .ref 71), (1, .int v1), (2, .long v2), (4, .int v4)], [], σ) (fun v s => v = none ∧ s = σ2) := by
  unfold j_clearOthers_71_b115 at h
  refine Rc.blk (c := []) (s2 := (15, [(4, .int (v4 + 1)), (0, .ref 71), (1, .int v1), (2, .long v2)], [], σ)) 7 rfl rfl (trivial) ?_
  refine Rc.pick [1, 2, 3, 0] (lv2 := [(0, .ref 71), (1, .int v1), (2, .long v2), (4, .int (v4 + 1))]) rfl ?_
  exact hk15 _ _ _ _ _ _ h
theorem j_clearOthers_71_H35_ok {d : Nat} (hd : 0 ≤ d) {k15 : Int32 → Int64 → Int32 → Sg → Option (Unit × Sg)} {k35 : Int32 → Int64 → Int32 → Int64 → Int32 → Sg → Option (Unit × Sg)} (hk15 : ∀ (v1 : Int32) (v2 : Int64) (v4 : Int32) (σ : Sg) (r : Unit) (σ2 : Sg), k15 v1 v2 v4 σ = some (r, σ2) → Rc none (Ev MT CT d) sg6 (15, [(0, .ref 71), (1, .int v1), (2, .long v2), (4, .int v4)], [], σ) (fun v s => v = none ∧ s = σ2)) (hk35 : ∀ (v1 : Int32) (v2 : Int64) (v4 : Int32) (v5 : Int64) (v7 : Int32) (σ : Sg) (r : Unit) (σ2 : Sg), k35 v1 v2 v4 v5 v7 σ = some (r, σ2) → Rc none (Ev MT CT d) sg6 (35, [(0, .ref 71), (1, .int v1), (2, .long v2), (4, .int v4), (5, .long v5), (7, .int v7)], [], σ) (fun v s => v = none ∧ s = σ2)) (v1 : Int32) (v2 : Int64) (v4 : Int32) (v5 : Int64) (v7 : Int32) (σ : Sg) (r : Unit) (σ2 : Sg) (h : j_clearOthers_71_H35 k15 k35 v1 v2 v4 v5 v7 σ = some (r, σ2)) : Rc none (Ev MT CT d) sg6 (35, [(0, .ref 71), (1, .int v1), (2, .long v2), (4, .int v4), (5, .long v5), (7, .int v7)], [], σ) (fun v s => v = none ∧ s = σ2) := by
  unfold j_clearOthers_71_H35 at h
  refine Rc.blk (c := [_]) (s2 := (if (σ.1 71 2) ≤ v7 then 115 else 44, [(0, .ref 71), (1, .int v1), (2, .long v2), (4, .int v4), (5, .long v5), (7, .int v7)], [], σ)) 3 rfl rfl (conj_c (rfl) (trivial)) ?_
  by_cases c10 : (σ.1 71 2) ≤ v7
  · rw [if_pos c10] at h
    refine Rc.ifp c10 ?_
    refine Rc.pick [0, 1, 2, 3] (lv2 := [(0, .ref 71), (1, .int v1), (2, .long v2), (4, .int v4)]) rfl ?_
    exact j_clearOthers_71_b115_ok hd hk15 _ _ _ _ _ _ h
  · rw [if_neg c10] at h
    refine Rc.ifn c10 ?_
    refine Rc.blk (c := [_]) (s2 := (if v4 = (σ.1 71 3) then 115 else 53, [(0, .ref 71), (1, .int v1), (2, .long v2), (4, .int v4), (5, .long v5), (7, .int v7)], [], σ)) 4 rfl rfl (conj_c (rfl) (trivial)) ?_
    by_cases c9 : v4 = (σ.1 71 3)
    · rw [if_pos c9] at h
      refine Rc.ifp c9 ?_
      refine Rc.pick [0, 1, 2, 3] (lv2 := [(0, .ref 71), (1, .int v1), (2, .long v2), (4, .int v4)]) rfl ?_
      exact j_clearOthers_71_b115_ok hd hk15 _ _ _ _ _ _ h
    · rw [if_neg c9] at h
      refine Rc.ifn c9 ?_
      refine Rc.blk (c := [_]) (s2 := (if (lg_cmp (σ.2 71 5) 0) = 0 then 115 else 62, [(0, .ref 71), (1, .int v1), (2, .long v2), (4, .int v4), (5, .long v5), (7, .int v7)], [], σ)) 5 rfl rfl (conj_c (rfl) (trivial)) ?_
      by_cases c8 : (lg_cmp (σ.2 71 5) 0) = 0
      · rw [if_pos c8] at h
        refine Rc.ifp c8 ?_
        refine Rc.pick [0, 1, 2, 3] (lv2 := [(0, .ref 71), (1, .int v1), (2, .long v2), (4, .int v4)]) rfl ?_
        exact j_clearOthers_71_b115_ok hd hk15 _ _ _ _ _ _ h
      · rw [if_neg c8] at h
        refine Rc.ifn c8 ?_
        obtain ⟨g1, h⟩ := gd_some h
        obtain ⟨g2, h⟩ := gd_some h
        obtain ⟨g3, h⟩ := gd_some h
        obtain ⟨g4, h⟩ := gd_some h
        obtain ⟨g5, h⟩ := gd_some h
        obtain ⟨g6, h⟩ := gd_some h
        obtain ⟨g7, h⟩ := gd_some h
        refine Rc.blk (c := [_, _, _, _, _, _, _, _, _, _, _, _]) (s2 := (35, [(7, .int (v7 + 1)), (8, .long ((σ.2 (72 + 1 + v4.toNatClampNeg) v7.toNatClampNeg) * v2)), (0, .ref 71), (1, .int v1), (2, .long v2), (4, .int v4), (5, .long v5)], [], sl σ (72 + 1 + v4.toNatClampNeg) v7.toNatClampNeg ((((σ.2 (72 + 1 + v4.toNatClampNeg) v7.toNatClampNeg) * v2) - (v5 * (σ.2 (72 + 1 + (σ.1 71 3).toNatClampNeg) v7.toNatClampNeg))) / (σ.2 71 5)))) 6 rfl rfl (conj_c (rfl) (conj_c (⟨Or.inr rfl, inB_in g1⟩) (conj_c (arB_in g2) (conj_c (rfl) (conj_c (⟨Or.inr rfl, inB_in g3⟩) (conj_c (rfl) (conj_c (rfl) (conj_c (⟨Or.inr rfl, inB_in g4⟩) (conj_c (arB_in g5) (conj_c (rfl) (conj_c (neBL_ne g6) (conj_c (arB_in g7) (trivial))))))))))))) ?_
        refine Rc.pick [2, 3, 4, 5, 6, 0] (lv2 := [(0, .ref 71), (1, .int v1), (2, .long v2), (4, .int v4), (5, .long v5), (7, .int (v7 + 1))]) rfl ?_
        exact hk35 _ _ _ _ _ _ _ _ h
theorem j_clearOthers_71_L35_ok {d : Nat} (hd : 0 ≤ d) {k15 : Int32 → Int64 → Int32 → Sg → Option (Unit × Sg)} (hk15 : ∀ (v1 : Int32) (v2 : Int64) (v4 : Int32) (σ : Sg) (r : Unit) (σ2 : Sg), k15 v1 v2 v4 σ = some (r, σ2) → Rc none (Ev MT CT d) sg6 (15, [(0, .ref 71), (1, .int v1), (2, .long v2), (4, .int v4)], [], σ) (fun v s => v = none ∧ s = σ2)) : ∀ (n : Nat) (v1 : Int32) (v2 : Int64) (v4 : Int32) (v5 : Int64) (v7 : Int32) (σ : Sg) (r : Unit) (σ2 : Sg), j_clearOthers_71_L35 k15 n v1 v2 v4 v5 v7 σ = some (r, σ2) → Rc none (Ev MT CT d) sg6 (35, [(0, .ref 71), (1, .int v1), (2, .long v2), (4, .int v4), (5, .long v5), (7, .int v7)], [], σ) (fun v s => v = none ∧ s = σ2)
  | 0, _, _, _, _, _, _, _, _, h => by cases h
  | n + 1, v1, v2, v4, v5, v7, σ, r, σ2, h => j_clearOthers_71_H35_ok hd hk15 (j_clearOthers_71_L35_ok hd hk15 n) v1 v2 v4 v5 v7 σ r σ2 h
theorem j_clearOthers_71_H15_ok {d : Nat} (hd : 0 ≤ d) {k15 : Int32 → Int64 → Int32 → Sg → Option (Unit × Sg)} (hk15 : ∀ (v1 : Int32) (v2 : Int64) (v4 : Int32) (σ : Sg) (r : Unit) (σ2 : Sg), k15 v1 v2 v4 σ = some (r, σ2) → Rc none (Ev MT CT d) sg6 (15, [(0, .ref 71), (1, .int v1), (2, .long v2), (4, .int v4)], [], σ) (fun v s => v = none ∧ s = σ2)) (v1 : Int32) (v2 : Int64) (v4 : Int32) (σ : Sg) (r : Unit) (σ2 : Sg) (h : j_clearOthers_71_H15 k15 v1 v2 v4 σ = some (r, σ2)) : Rc none (Ev MT CT d) sg6 (15, [(0, .ref 71), (1, .int v1), (2, .long v2), (4, .int v4)], [], σ) (fun v s => v = none ∧ s = σ2) := by
  unfold j_clearOthers_71_H15 at h
  refine Rc.blk (c := []) (s2 := (if 5 ≤ v4 then 121 else 21, [(0, .ref 71), (1, .int v1), (2, .long v2), (4, .int v4)], [], σ)) 1 rfl rfl (trivial) ?_
  by_cases c3 : 5 ≤ v4
  · rw [if_pos c3] at h
    refine Rc.ifp c3 ?_
    refine Rc.blk (c := [_]) (s2 := (126, [(0, .ref 71), (1, .int v1), (2, .long v2), (4, .int v4)], [], sl σ 71 5 v2)) 8 rfl rfl (conj_c (rfl) (trivial)) ?_
    obtain ⟨rfl, rfl⟩ := some_pair h
    exact Rc.ret 9 rfl rfl rfl trivial ⟨rfl, rfl⟩
  · rw [if_neg c3] at h
    refine Rc.ifn c3 ?_
    obtain ⟨g1, h⟩ := gd_some h
    obtain ⟨g2, h⟩ := gd_some h
    refine Rc.blk (c := [_, _, _]) (s2 := (35, [(7, .int 0), (5, .long (σ.2 (72 + 1 + v4.toNatClampNeg) v1.toNatClampNeg)), (0, .ref 71), (1, .int v1), (2, .long v2), (4, .int v4)], [], σ)) 2 rfl rfl (conj_c (rfl) (conj_c (⟨Or.inr rfl, inB_in g1⟩) (conj_c (arB_in g2) (trivial)))) ?_
    refine Rc.pick [2, 3, 4, 5, 1, 0] (lv2 := [(0, .ref 71), (1, .int v1), (2, .long v2), (4, .int v4), (5, .long (σ.2 (72 + 1 + v4.toNatClampNeg) v1.toNatClampNeg)), (7, .int 0)]) rfl ?_
    exact j_clearOthers_71_L35_ok hd hk15 fu _ _ _ _ _ _ _ _ h
theorem j_clearOthers_71_L15_ok {d : Nat} (hd : 0 ≤ d) : ∀ (n : Nat) (v1 : Int32) (v2 : Int64) (v4 : Int32) (σ : Sg) (r : Unit) (σ2 : Sg), j_clearOthers_71_L15 n v1 v2 v4 σ = some (r, σ2) → Rc none (Ev MT CT d) sg6 (15, [(0, .ref 71), (1, .int v1), (2, .long v2), (4, .int v4)], [], σ) (fun v s => v = none ∧ s = σ2)
  | 0, _, _, _, _, _, _, h => by cases h
  | n + 1, v1, v2, v4, σ, r, σ2, h => j_clearOthers_71_H15_ok hd (j_clearOthers_71_L15_ok hd n) v1 v2 v4 σ r σ2 h
theorem j_clearOthers_71_ok {d : Nat} (hd : 1 ≤ d) {v1 : Int32} {σ : Sg} {r : Unit} {σ2 : Sg} (h : j_clearOthers_71 v1 σ = some (r, σ2)) : Ev MT CT d 6 [.ref 71, .int v1] σ (fun v s => v = none ∧ s = σ2) := by
  obtain ⟨d, rfl⟩ : ∃ e, d = e + 1 := ⟨d - 1, by omega⟩
  refine ⟨Nat.le_of_ble_eq_true rfl, ?_⟩
  show Rc none (Ev MT CT d) sg6 (0, [(0, .ref 71), (1, .int v1)], [], σ) _
  unfold j_clearOthers_71 at h
  have hd : 0 ≤ d := by omega
  obtain ⟨g1, h⟩ := gd_some h
  obtain ⟨g2, h⟩ := gd_some h
  refine Rc.blk (c := [_, _, _, _]) (s2 := (15, [(4, .int 0), (2, .long (σ.2 (72 + 1 + (σ.1 71 3).toNatClampNeg) v1.toNatClampNeg)), (0, .ref 71), (1, .int v1)], [], σ)) 0 rfl rfl (conj_c (rfl) (conj_c (rfl) (conj_c (⟨Or.inr rfl, inB_in g1⟩) (conj_c (arB_in g2) (trivial))))) ?_
  refine Rc.pick [2, 3, 1, 0] (lv2 := [(0, .ref 71), (1, .int v1), (2, .long (σ.2 (72 + 1 + (σ.1 71 3).toNatClampNeg) v1.toNatClampNeg)), (4, .int 0)]) rfl ?_
  exact j_clearOthers_71_L15_ok hd fu _ _ _ _ _ _ h
theorem j_run_71_52_b142_ok {d : Nat} (hd : 1 ≤ d) {k74 : Int32 → Int32 → Sg → Option (Unit × Sg)} (hk74 : ∀ (v3 : Int32) (v4 : Int32) (σ : Sg) (r : Unit) (σ2 : Sg), k74 v3 v4 σ = some (r, σ2) → Rc none (Ev MT CT d) sg4 (74, [(0, .ref 71), (3, .int v3), (4, .int v4)], [], σ) (fun v s => v = none ∧ s = σ2)) (v3 : Int32) (v4 : Int32) (σ : Sg) (r : Unit) (σ2 : Sg) (h : j_run_71_52_b142 k74 v3 v4 σ = some (r, σ2)) : Rc none (Ev MT CT d) sg4 (142, [(0, .ref 71), (3, .int v3), (4, .int v4)], [], σ) (fun v s => v = none ∧ s = σ2) := by
  unfold j_run_71_52_b142 at h
  refine Rc.blk (c := []) (s2 := (74, [(4, .int (v4 + 1)), (0, .ref 71), (3, .int v3)], [], σ)) 17 rfl rfl (trivial) ?_
  refine Rc.pick [1, 2, 0] (lv2 := [(0, .ref 71), (3, .int v3), (4, .int (v4 + 1))]) rfl ?_
  exact hk74 _ _ _ _ _ h
theorem j_run_71_52_H74_ok {d : Nat} (hd : 1 ≤ d) {k74 : Int32 → Int32 → Sg → Option (Unit × Sg)} (hk74 : ∀ (v3 : Int32) (v4 : Int32) (σ : Sg) (r : Unit) (σ2 : Sg), k74 v3 v4 σ = some (r, σ2) → Rc none (Ev MT CT d) sg4 (74, [(0, .ref 71), (3, .int v3), (4, .int v4)], [], σ) (fun v s => v = none ∧ s = σ2)) (v3 : Int32) (v4 : Int32) (σ : Sg) (r : Unit) (σ2 : Sg) (h : j_run_71_52_H74 k74 v3 v4 σ = some (r, σ2)) : Rc none (Ev MT CT d) sg4 (74, [(0, .ref 71), (3, .int v3), (4, .int v4)], [], σ) (fun v s => v = none ∧ s = σ2) := by
  unfold j_run_71_52_H74 at h
  refine Rc.blk (c := [_]) (s2 := (if (σ.1 71 2) ≤ v4 then 148 else 83, [(0, .ref 71), (3, .int v3), (4, .int v4)], [], σ)) 7 rfl rfl (conj_c (rfl) (trivial)) ?_
  by_cases c7 : (σ.1 71 2) ≤ v4
  · rw [if_pos c7] at h
    refine Rc.ifp c7 ?_
    obtain ⟨rfl, rfl⟩ := some_pair h
    exact Rc.ret 18 rfl rfl rfl trivial ⟨rfl, rfl⟩
  · rw [if_neg c7] at h
    refine Rc.ifn c7 ?_
    refine Rc.blk (c := []) (s2 := (86, [(0, .ref 71), (3, .int v3), (4, .int v4)], [.int v4, .int v3], σ)) 8 rfl rfl (trivial) ?_
    obtain ⟨r1, σ1, hc, h⟩ := bd_some h
    refine Rc.call (Ev.mono d) (v := some (.int r1)) (as := [.int v3, .int v4]) (r := []) 9 rfl rfl rfl rfl (Nat.le_of_ble_eq_true rfl) (j_bit_s_ok (by omega) hc) ?_
    show Rc _ _ _ (89, [(0, .ref 71), (3, .int v3), (4, .int v4)], [.int r1], σ1) _
    refine Rc.blk (c := []) (s2 := (if ¬ r1 = 1 then 142 else 93, [(0, .ref 71), (3, .int v3), (4, .int v4)], [], σ1)) 10 rfl rfl (trivial) ?_
    by_cases c6 : r1 = 1
    · rw [if_pos c6] at h
      refine Rc.ifn (fun q => q c6) ?_
      refine Rc.blk (c := []) (s2 := (96, [(0, .ref 71), (3, .int v3), (4, .int v4)], [.int v4, .ref 71], σ1)) 11 rfl rfl (trivial) ?_
      obtain ⟨r2, σ2, hc, h⟩ := bd_some h
      refine Rc.call (Ev.mono d) (v := some (.int r2)) (as := [.ref 71, .int v4]) (r := []) 12 rfl rfl rfl rfl ⟨rfl, Nat.le_of_ble_eq_true rfl⟩ (j_bringUp_71_ok (by omega) hc) ?_
      show Rc _ _ _ (99, [(0, .ref 71), (3, .int v3), (4, .int v4)], [.int r2], σ2) _
      refine Rc.blk (c := []) (s2 := (if r2 = 0 then 142 else 102, [(0, .ref 71), (3, .int v3), (4, .int v4)], [], σ2)) 13 rfl rfl (trivial) ?_
      by_cases c5 : r2 = 0
      · rw [if_pos c5] at h
        refine Rc.ifp c5 ?_
        exact j_run_71_52_b142_ok hd hk74 _ _ _ _ _ h
      · rw [if_neg c5] at h
        refine Rc.ifn c5 ?_
        refine Rc.blk (c := []) (s2 := (105, [(0, .ref 71), (3, .int v3), (4, .int v4)], [.int v4, .ref 71], σ2)) 14 rfl rfl (trivial) ?_
        obtain ⟨r3, σ3, hc, h⟩ := bd_some h
        refine Rc.call (Ev.mono d) (v := none) (as := [.ref 71, .int v4]) (r := []) 15 rfl rfl rfl rfl ⟨rfl, Nat.le_of_ble_eq_true rfl⟩ (j_clearOthers_71_ok (by omega) hc) ?_
        show Rc _ _ _ (108, [(0, .ref 71), (3, .int v3), (4, .int v4)], [], σ3) _
        obtain ⟨g4, h⟩ := gd_some h
        refine Rc.blk (c := [_, _, _, _, _, _, _, _, _]) (s2 := (142, [(0, .ref 71), (3, .int v3), (4, .int v4)], [], si (si (si σ3 78 v4.toNatClampNeg (σ3.1 71 3)) 71 4 (((si σ3 78 v4.toNatClampNeg (σ3.1 71 3)).1 71 4) ||| ((1 : Int32) <<< (v4 &&& 31)))) 71 3 (((si (si σ3 78 v4.toNatClampNeg (σ3.1 71 3)) 71 4 (((si σ3 78 v4.toNatClampNeg (σ3.1 71 3)).1 71 4) ||| ((1 : Int32) <<< (v4 &&& 31)))).1 71 3) + 1))) 16 rfl rfl (conj_c (rfl) (conj_c (rfl) (conj_c (⟨rfl, inB_in g4⟩) (conj_c (rfl) (conj_c (rfl) (conj_c (rfl) (conj_c (rfl) (conj_c (rfl) (conj_c (rfl) (trivial)))))))))) ?_
        exact j_run_71_52_b142_ok hd hk74 _ _ _ _ _ h
    · rw [if_neg c6] at h
      refine Rc.ifp c6 ?_
      exact j_run_71_52_b142_ok hd hk74 _ _ _ _ _ h
theorem j_run_71_52_L74_ok {d : Nat} (hd : 1 ≤ d) : ∀ (n : Nat) (v3 : Int32) (v4 : Int32) (σ : Sg) (r : Unit) (σ2 : Sg), j_run_71_52_L74 n v3 v4 σ = some (r, σ2) → Rc none (Ev MT CT d) sg4 (74, [(0, .ref 71), (3, .int v3), (4, .int v4)], [], σ) (fun v s => v = none ∧ s = σ2)
  | 0, _, _, _, _, _, h => by cases h
  | n + 1, v3, v4, σ, r, σ2, h => j_run_71_52_H74_ok hd (j_run_71_52_L74_ok hd n) v3 v4 σ r σ2 h
set_option maxRecDepth 100000 in
theorem j_run_71_52_H32_ok {d : Nat} (hd : 1 ≤ d) {k23 : Int32 → Int32 → Sg → Option (Unit × Sg)} {k32 : Int32 → Int32 → Int32 → Sg → Option (Unit × Sg)} (hk23 : ∀ (v3 : Int32) (v4 : Int32) (σ : Sg) (r : Unit) (σ2 : Sg), k23 v3 v4 σ = some (r, σ2) → Rc none (Ev MT CT d) sg4 (23, [(0, .ref 71), (1, .ref 52), (3, .int v3), (4, .int v4)], [], σ) (fun v s => v = none ∧ s = σ2)) (hk32 : ∀ (v3 : Int32) (v4 : Int32) (v5 : Int32) (σ : Sg) (r : Unit) (σ2 : Sg), k32 v3 v4 v5 σ = some (r, σ2) → Rc none (Ev MT CT d) sg4 (32, [(0, .ref 71), (1, .ref 52), (3, .int v3), (4, .int v4), (5, .int v5)], [], σ) (fun v s => v = none ∧ s = σ2)) (v3 : Int32) (v4 : Int32) (v5 : Int32) (σ : Sg) (r : Unit) (σ2 : Sg) (h : j_run_71_52_H32 k23 k32 v3 v4 v5 σ = some (r, σ2)) : Rc none (Ev MT CT d) sg4 (32, [(0, .ref 71), (1, .ref 52), (3, .int v3), (4, .int v4), (5, .int v5)], [], σ) (fun v s => v = none ∧ s = σ2) := by
  unfold j_run_71_52_H32 at h
  refine Rc.blk (c := [_]) (s2 := (if (σ.1 71 2) ≤ v5 then 65 else 41, [(0, .ref 71), (1, .ref 52), (3, .int v3), (4, .int v4), (5, .int v5)], [], σ)) 3 rfl rfl (conj_c (rfl) (trivial)) ?_
  by_cases c5 : (σ.1 71 2) ≤ v5
  · rw [if_pos c5] at h
    refine Rc.ifp c5 ?_
    refine Rc.blk (c := []) (s2 := (23, [(4, .int (v4 + 1)), (0, .ref 71), (1, .ref 52), (3, .int v3), (5, .int v5)], [], σ)) 5 rfl rfl (trivial) ?_
    refine Rc.pick [1, 2, 3, 0] (lv2 := [(0, .ref 71), (1, .ref 52), (3, .int v3), (4, .int (v4 + 1))]) rfl ?_
    exact hk23 _ _ _ _ _ h
  · rw [if_neg c5] at h
    refine Rc.ifn c5 ?_
    obtain ⟨g1, h⟩ := gd_some h
    obtain ⟨g2, h⟩ := gd_some h
    obtain ⟨g3, h⟩ := gd_some h
    obtain ⟨g4, h⟩ := gd_some h
    refine Rc.blk (c := [_, _, _, _, _]) (s2 := (32, [(5, .int (v5 + 1)), (0, .ref 71), (1, .ref 52), (3, .int v3), (4, .int v4)], [], sl σ (72 + 1 + v4.toNatClampNeg) v5.toNatClampNeg ((σ.1 (52 + 1 + v5.toNatClampNeg) v4.toNatClampNeg).toInt64))) 4 rfl rfl (conj_c (rfl) (conj_c (⟨Or.inr rfl, inB_in g1⟩) (conj_c (⟨Or.inl rfl, inB_in g2⟩) (conj_c (arB_in g3) (conj_c (arB_in g4) (trivial)))))) ?_
    refine Rc.pick [1, 2, 3, 4, 0] (lv2 := [(0, .ref 71), (1, .ref 52), (3, .int v3), (4, .int v4), (5, .int (v5 + 1))]) rfl ?_
    exact hk32 _ _ _ _ _ _ h
theorem j_run_71_52_L32_ok {d : Nat} (hd : 1 ≤ d) {k23 : Int32 → Int32 → Sg → Option (Unit × Sg)} (hk23 : ∀ (v3 : Int32) (v4 : Int32) (σ : Sg) (r : Unit) (σ2 : Sg), k23 v3 v4 σ = some (r, σ2) → Rc none (Ev MT CT d) sg4 (23, [(0, .ref 71), (1, .ref 52), (3, .int v3), (4, .int v4)], [], σ) (fun v s => v = none ∧ s = σ2)) : ∀ (n : Nat) (v3 : Int32) (v4 : Int32) (v5 : Int32) (σ : Sg) (r : Unit) (σ2 : Sg), j_run_71_52_L32 k23 n v3 v4 v5 σ = some (r, σ2) → Rc none (Ev MT CT d) sg4 (32, [(0, .ref 71), (1, .ref 52), (3, .int v3), (4, .int v4), (5, .int v5)], [], σ) (fun v s => v = none ∧ s = σ2)
  | 0, _, _, _, _, _, _, h => by cases h
  | n + 1, v3, v4, v5, σ, r, σ2, h => j_run_71_52_H32_ok hd hk23 (j_run_71_52_L32_ok hd hk23 n) v3 v4 v5 σ r σ2 h
theorem j_run_71_52_H23_ok {d : Nat} (hd : 1 ≤ d) {k23 : Int32 → Int32 → Sg → Option (Unit × Sg)} (hk23 : ∀ (v3 : Int32) (v4 : Int32) (σ : Sg) (r : Unit) (σ2 : Sg), k23 v3 v4 σ = some (r, σ2) → Rc none (Ev MT CT d) sg4 (23, [(0, .ref 71), (1, .ref 52), (3, .int v3), (4, .int v4)], [], σ) (fun v s => v = none ∧ s = σ2)) (v3 : Int32) (v4 : Int32) (σ : Sg) (r : Unit) (σ2 : Sg) (h : j_run_71_52_H23 k23 v3 v4 σ = some (r, σ2)) : Rc none (Ev MT CT d) sg4 (23, [(0, .ref 71), (1, .ref 52), (3, .int v3), (4, .int v4)], [], σ) (fun v s => v = none ∧ s = σ2) := by
  unfold j_run_71_52_H23 at h
  refine Rc.blk (c := []) (s2 := (if 5 ≤ v4 then 71 else 29, [(0, .ref 71), (1, .ref 52), (3, .int v3), (4, .int v4)], [], σ)) 1 rfl rfl (trivial) ?_
  by_cases c1 : 5 ≤ v4
  · rw [if_pos c1] at h
    refine Rc.ifp c1 ?_
    refine Rc.blk (c := []) (s2 := (74, [(4, .int 0), (0, .ref 71), (1, .ref 52), (3, .int v3)], [], σ)) 6 rfl rfl (trivial) ?_
    refine Rc.pick [1, 3, 0] (lv2 := [(0, .ref 71), (3, .int v3), (4, .int 0)]) rfl ?_
    exact j_run_71_52_L74_ok hd fu _ _ _ _ _ h
  · rw [if_neg c1] at h
    refine Rc.ifn c1 ?_
    refine Rc.blk (c := []) (s2 := (32, [(5, .int 0), (0, .ref 71), (1, .ref 52), (3, .int v3), (4, .int v4)], [], σ)) 2 rfl rfl (trivial) ?_
    refine Rc.pick [1, 2, 3, 4, 0] (lv2 := [(0, .ref 71), (1, .ref 52), (3, .int v3), (4, .int v4), (5, .int 0)]) rfl ?_
    exact j_run_71_52_L32_ok hd hk23 fu _ _ _ _ _ _ h
theorem j_run_71_52_L23_ok {d : Nat} (hd : 1 ≤ d) : ∀ (n : Nat) (v3 : Int32) (v4 : Int32) (σ : Sg) (r : Unit) (σ2 : Sg), j_run_71_52_L23 n v3 v4 σ = some (r, σ2) → Rc none (Ev MT CT d) sg4 (23, [(0, .ref 71), (1, .ref 52), (3, .int v3), (4, .int v4)], [], σ) (fun v s => v = none ∧ s = σ2)
  | 0, _, _, _, _, _, h => by cases h
  | n + 1, v3, v4, σ, r, σ2, h => j_run_71_52_H23_ok hd (j_run_71_52_L23_ok hd n) v3 v4 σ r σ2 h
theorem j_run_71_52_ok {d : Nat} (hd : 2 ≤ d) {v2 : Int32} {v3 : Int32} {σ : Sg} {r : Unit} {σ2 : Sg} (h : j_run_71_52 v2 v3 σ = some (r, σ2)) : Ev MT CT d 4 [.ref 71, .ref 52, .int v2, .int v3] σ (fun v s => v = none ∧ s = σ2) := by
  obtain ⟨d, rfl⟩ : ∃ e, d = e + 1 := ⟨d - 1, by omega⟩
  refine ⟨Nat.le_of_ble_eq_true rfl, ?_⟩
  show Rc none (Ev MT CT d) sg4 (0, [(0, .ref 71), (1, .ref 52), (2, .int v2), (3, .int v3)], [], σ) _
  unfold j_run_71_52 at h
  have hd : 1 ≤ d := by omega
  refine Rc.blk (c := [_, _, _, _]) (s2 := (23, [(4, .int 0), (0, .ref 71), (1, .ref 52), (2, .int v2), (3, .int v3)], [], sl (si (si (si σ 71 2 v2) 71 3 0) 71 4 0) 71 5 1)) 0 rfl rfl (conj_c (rfl) (conj_c (rfl) (conj_c (rfl) (conj_c (rfl) (trivial))))) ?_
  refine Rc.pick [1, 2, 4, 0] (lv2 := [(0, .ref 71), (1, .ref 52), (3, .int v3), (4, .int 0)]) rfl ?_
  exact j_run_71_52_L23_ok hd fu _ _ _ _ _ h
theorem j_choose_70_b57_ok {d : Nat} (hd : 2 ≤ d) (s0 : Int32) (σ : Sg) (r : Int32) (σ2 : Sg) (h : j_choose_70_b57 s0 σ = some (r, σ2)) : Rc none (Ev MT CT d) sg0 (57, [], [.int s0], σ) (fun v s => v = some (.int r) ∧ s = σ2) := by
  unfold j_choose_70_b57 at h
  obtain ⟨g, h⟩ := gd_some h
  obtain ⟨rfl, rfl⟩ := some_pair h
  exact Rc.ret 10 rfl rfl rfl (nbB_ok g) ⟨rfl, rfl⟩
theorem j_choose_70_ok {d : Nat} (hd : 3 ≤ d) {v1 : Int32} {σ : Sg} {r : Int32} {σ2 : Sg} (h : j_choose_70 v1 σ = some (r, σ2)) : Ev MT CT d 0 [.ref 70, .int v1] σ (fun v s => v = some (.int r) ∧ s = σ2) := by
  obtain ⟨d, rfl⟩ : ∃ e, d = e + 1 := ⟨d - 1, by omega⟩
  refine ⟨Nat.le_of_ble_eq_true rfl, ?_⟩
  show Rc none (Ev MT CT d) sg0 (0, [(0, .ref 70), (1, .int v1)], [], σ) _
  unfold j_choose_70 at h
  have hd : 2 ≤ d := by omega
  refine Rc.blk (c := []) (s2 := (1, [(0, .ref 70), (1, .int v1)], [.int v1], σ)) 0 rfl rfl (trivial) ?_
  obtain ⟨r1, σ1, hc, h⟩ := bd_some h
  refine Rc.call (Ev.mono d) (v := some (.int r1)) (as := [.int v1]) (r := []) 1 rfl rfl rfl rfl (Nat.le_of_ble_eq_true rfl) (j_bitCount_s_ok (by omega) hc) ?_
  show Rc _ _ _ (4, [(0, .ref 70), (1, .int v1)], [.int r1], σ1) _
  refine Rc.blk (c := [_, _, _]) (s2 := (if r1 = (σ1.1 62 3) then 19 else 17, [(0, .ref 70), (1, .int v1)], [], σ1)) 2 rfl rfl (conj_c (rfl) (conj_c (rfl) (conj_c (rfl) (trivial)))) ?_
  by_cases c4 : r1 = (σ1.1 62 3)
  · rw [if_pos c4] at h
    refine Rc.ifp c4 ?_
    refine Rc.blk (c := [_, _, _, _, _]) (s2 := (38, [(0, .ref 70), (1, .int v1)], [.int v1, .int (σ1.1 51 0), .ref 52, .ref 71], σ1)) 5 rfl rfl (conj_c (rfl) (conj_c (rfl) (conj_c (rfl) (conj_c (rfl) (conj_c (rfl) (trivial)))))) ?_
    obtain ⟨r2, σ2, hc, h⟩ := bd_some h
    refine Rc.call (Ev.mono d) (v := none) (as := [.ref 71, .ref 52, .int (σ1.1 51 0), .int v1]) (r := []) 6 rfl rfl rfl rfl ⟨rfl, Nat.le_of_ble_eq_true rfl⟩ (j_run_71_52_ok (by omega) hc) ?_
    show Rc _ _ _ (41, [(0, .ref 70), (1, .int v1)], [], σ2) _
    refine Rc.blk (c := [_, _]) (s2 := (if ¬ (σ2.1 71 4) = v1 then 56 else 52, [(0, .ref 70), (1, .int v1)], [], σ2)) 7 rfl rfl (conj_c (rfl) (conj_c (rfl) (trivial))) ?_
    by_cases c3 : (σ2.1 71 4) = v1
    · rw [if_pos c3] at h
      refine Rc.ifn (fun q => q c3) ?_
      refine Rc.blk (c := []) (s2 := (57, [(0, .ref 70), (1, .int v1)], [.int 1], σ2)) 8 rfl rfl (trivial) ?_
      refine Rc.pick [] (lv2 := []) rfl ?_
      exact j_choose_70_b57_ok hd _ _ _ _ h
    · rw [if_neg c3] at h
      refine Rc.ifp c3 ?_
      refine Rc.blk (c := []) (s2 := (57, [(0, .ref 70), (1, .int v1)], [.int 0], σ2)) 9 rfl rfl (trivial) ?_
      refine Rc.pick [] (lv2 := []) rfl ?_
      exact j_choose_70_b57_ok hd _ _ _ _ h
  · rw [if_neg c4] at h
    refine Rc.ifn c4 ?_
    refine Rc.blk (c := []) (s2 := (18, [(0, .ref 70), (1, .int v1)], [.int 0], σ1)) 3 rfl rfl (trivial) ?_
    obtain ⟨rfl, rfl⟩ := some_pair h
    exact Rc.ret 4 rfl rfl rfl (Or.inl rfl) ⟨rfl, rfl⟩
theorem j_isSet_0_b22_ok {d : Nat} (hd : 0 ≤ d) (s0 : Int32) (σ : Sg) (r : Int32) (σ2 : Sg) (h : j_isSet_0_b22 s0 σ = some (r, σ2)) : Rc none (Ev MT CT d) sg105 (22, [], [.int s0], σ) (fun v s => v = some (.int r) ∧ s = σ2) := by
  unfold j_isSet_0_b22 at h
  obtain ⟨g, h⟩ := gd_some h
  obtain ⟨rfl, rfl⟩ := some_pair h
  exact Rc.ret 4 rfl rfl rfl (nbB_ok g) ⟨rfl, rfl⟩
theorem j_isSet_0_b21_ok {d : Nat} (hd : 0 ≤ d) (σ : Sg) (r : Int32) (σ2 : Sg) (h : j_isSet_0_b21 σ = some (r, σ2)) : Rc none (Ev MT CT d) sg105 (21, [], [], σ) (fun v s => v = some (.int r) ∧ s = σ2) := by
  unfold j_isSet_0_b21 at h
  refine Rc.blk (c := []) (s2 := (22, [], [.int 0], σ)) 3 rfl rfl (trivial) ?_
  exact j_isSet_0_b22_ok hd _ _ _ _ h
theorem j_isSet_0_ok {d : Nat} (hd : 1 ≤ d) {v1 : Int32} {σ : Sg} {r : Int32} {σ2 : Sg} (h : j_isSet_0 v1 σ = some (r, σ2)) : Ev MT CT d 105 [.ref 0, .int v1] σ (fun v s => v = some (.int r) ∧ s = σ2) := by
  obtain ⟨d, rfl⟩ : ∃ e, d = e + 1 := ⟨d - 1, by omega⟩
  refine ⟨Nat.le_of_ble_eq_true rfl, ?_⟩
  show Rc none (Ev MT CT d) sg105 (0, [(0, .ref 0), (1, .int v1)], [], σ) _
  unfold j_isSet_0 at h
  have hd : 0 ≤ d := by omega
  refine Rc.blk (c := []) (s2 := (if v1 < 0 then 21 else 4, [(0, .ref 0), (1, .int v1)], [], σ)) 0 rfl rfl (trivial) ?_
  by_cases c2 : v1 < 0
  · rw [if_pos c2] at h
    refine Rc.ifp c2 ?_
    refine Rc.pick [] (lv2 := []) rfl ?_
    exact j_isSet_0_b21_ok hd _ _ _ h
  · rw [if_neg c2] at h
    refine Rc.ifn c2 ?_
    refine Rc.blk (c := [_, _]) (s2 := (if ((1 : Int32) <<< ((σ.1 1 0) &&& 31)) ≤ v1 then 21 else 17, [(0, .ref 0), (1, .int v1)], [], σ)) 1 rfl rfl (conj_c (rfl) (conj_c (rfl) (trivial))) ?_
    by_cases c1 : ((1 : Int32) <<< ((σ.1 1 0) &&& 31)) ≤ v1
    · rw [if_pos c1] at h
      refine Rc.ifp c1 ?_
      refine Rc.pick [] (lv2 := []) rfl ?_
      exact j_isSet_0_b21_ok hd _ _ _ h
    · rw [if_neg c1] at h
      refine Rc.ifn c1 ?_
      refine Rc.blk (c := []) (s2 := (22, [(0, .ref 0), (1, .int v1)], [.int 1], σ)) 2 rfl rfl (trivial) ?_
      refine Rc.pick [] (lv2 := []) rfl ?_
      exact j_isSet_0_b22_ok hd _ _ _ _ h
theorem j_may_0_b30_ok {d : Nat} (hd : 3 ≤ d) (s0 : Int32) (σ : Sg) (r : Int32) (σ2 : Sg) (h : j_may_0_b30 s0 σ = some (r, σ2)) : Rc none (Ev MT CT d) sg69 (30, [], [.int s0], σ) (fun v s => v = some (.int r) ∧ s = σ2) := by
  unfold j_may_0_b30 at h
  obtain ⟨rfl, rfl⟩ := some_pair h
  exact Rc.ret 11 rfl rfl rfl trivial ⟨rfl, rfl⟩
theorem j_may_0_ok {d : Nat} (hd : 4 ≤ d) {v1 : Int32} {σ : Sg} {r : Int32} {σ2 : Sg} (h : j_may_0 v1 σ = some (r, σ2)) : Ev MT CT d 69 [.ref 0, .int v1] σ (fun v s => v = some (.int r) ∧ s = σ2) := by
  obtain ⟨d, rfl⟩ : ∃ e, d = e + 1 := ⟨d - 1, by omega⟩
  refine ⟨Nat.le_of_ble_eq_true rfl, ?_⟩
  show Rc none (Ev MT CT d) sg69 (0, [(0, .ref 0), (1, .int v1)], [], σ) _
  unfold j_may_0 at h
  have hd : 3 ≤ d := by omega
  refine Rc.blk (c := []) (s2 := (2, [(0, .ref 0), (1, .int v1)], [.int v1, .ref 0], σ)) 0 rfl rfl (trivial) ?_
  obtain ⟨r1, σ1, hc, h⟩ := bd_some h
  refine Rc.call (Ev.mono d) (v := some (.int r1)) (as := [.ref 0, .int v1]) (r := []) 1 rfl rfl rfl rfl ⟨rfl, Nat.le_of_ble_eq_true rfl⟩ (j_isSet_0_ok (by omega) hc) ?_
  show Rc _ _ _ (5, [(0, .ref 0), (1, .int v1)], [.int r1], σ1) _
  refine Rc.blk (c := []) (s2 := (if ¬ r1 = 0 then 14 else 8, [(0, .ref 0), (1, .int v1)], [], σ1)) 2 rfl rfl (trivial) ?_
  by_cases c5 : r1 = 0
  · rw [if_pos c5] at h
    refine Rc.ifn (fun q => q c5) ?_
    refine Rc.blk (c := []) (s2 := (10, [(0, .ref 0), (1, .int v1)], [.int (-1), .ref 0], σ1)) 3 rfl rfl (trivial) ?_
    obtain ⟨r4, σ4, hc, h⟩ := bd_some h
    refine Rc.call (Ev.mono d) (v := some (.int r4)) (as := [.ref 0, .int (-1)]) (r := []) 4 rfl rfl rfl rfl ⟨rfl, Nat.le_of_ble_eq_true rfl⟩ (j_refused_0_ok (by omega) hc) ?_
    show Rc _ _ _ (13, [(0, .ref 0), (1, .int v1)], [.int r4], σ4) _
    obtain ⟨rfl, rfl⟩ := some_pair h
    exact Rc.ret 5 rfl rfl rfl trivial ⟨rfl, rfl⟩
  · rw [if_neg c5] at h
    refine Rc.ifp c5 ?_
    refine Rc.blk (c := [_]) (s2 := (19, [(0, .ref 0), (1, .int v1)], [.int v1, .ref 70], σ1)) 6 rfl rfl (conj_c (rfl) (trivial)) ?_
    obtain ⟨r2, σ2, hc, h⟩ := bd_some h
    refine Rc.call (Ev.mono d) (v := some (.int r2)) (as := [.ref 70, .int v1]) (r := []) 7 rfl rfl rfl rfl ⟨rfl, Nat.le_of_ble_eq_true rfl⟩ (j_choose_70_ok (by omega) hc) ?_
    show Rc _ _ _ (22, [(0, .ref 0), (1, .int v1)], [.int r2], σ2) _
    refine Rc.blk (c := []) (s2 := (if r2 = 0 then 29 else 25, [(0, .ref 0), (1, .int v1)], [], σ2)) 8 rfl rfl (trivial) ?_
    by_cases c3 : r2 = 0
    · rw [if_pos c3] at h
      refine Rc.ifp c3 ?_
      refine Rc.blk (c := []) (s2 := (30, [(0, .ref 0), (1, .int v1)], [.int 0], σ2)) 10 rfl rfl (trivial) ?_
      refine Rc.pick [] (lv2 := []) rfl ?_
      exact j_may_0_b30_ok hd _ _ _ _ h
    · rw [if_neg c3] at h
      refine Rc.ifn c3 ?_
      refine Rc.blk (c := []) (s2 := (30, [(0, .ref 0), (1, .int v1)], [.int 1], σ2)) 9 rfl rfl (trivial) ?_
      refine Rc.pick [] (lv2 := []) rfl ?_
      exact j_may_0_b30_ok hd _ _ _ _ h
theorem j_relation_71_113_b146_ok {d : Nat} (hd : 1 ≤ d) {k102 : Int32 → Int64 → Int32 → Sg → Option (Unit × Sg)} (hk102 : ∀ (v1 : Int32) (v3 : Int64) (v5 : Int32) (σ : Sg) (r : Unit) (σ2 : Sg), k102 v1 v3 v5 σ = some (r, σ2) → Rc none (Ev MT CT d) sg7 (102, [(0, .ref 71), (1, .int v1), (2, .ref 113), (3, .long v3), (5, .int v5)], [], σ) (fun v s => v = none ∧ s = σ2)) (v1 : Int32) (v3 : Int64) (v5 : Int32) (σ : Sg) (r : Unit) (σ2 : Sg) (h : j_relation_71_113_b146 k102 v1 v3 v5 σ = some (r, σ2)) : Rc none (Ev MT CT d) sg7 (146, [(0, .ref 71), (1, .int v1), (2, .ref 113), (3, .long v3), (5, .int v5)], [], σ) (fun v s => v = none ∧ s = σ2) := by
  unfold j_relation_71_113_b146 at h
  refine Rc.blk (c := []) (s2 := (102, [(5, .int (v5 + 1)), (0, .ref 71), (1, .int v1), (2, .ref 113), (3, .long v3)], [], σ)) 22 rfl rfl (trivial) ?_
  refine Rc.pick [1, 2, 3, 4, 0] (lv2 := [(0, .ref 71), (1, .int v1), (2, .ref 113), (3, .long v3), (5, .int (v5 + 1))]) rfl ?_
  exact hk102 _ _ _ _ _ _ h
theorem j_relation_71_113_H102_ok {d : Nat} (hd : 1 ≤ d) {k102 : Int32 → Int64 → Int32 → Sg → Option (Unit × Sg)} (hk102 : ∀ (v1 : Int32) (v3 : Int64) (v5 : Int32) (σ : Sg) (r : Unit) (σ2 : Sg), k102 v1 v3 v5 σ = some (r, σ2) → Rc none (Ev MT CT d) sg7 (102, [(0, .ref 71), (1, .int v1), (2, .ref 113), (3, .long v3), (5, .int v5)], [], σ) (fun v s => v = none ∧ s = σ2)) (v1 : Int32) (v3 : Int64) (v5 : Int32) (σ : Sg) (r : Unit) (σ2 : Sg) (h : j_relation_71_113_H102 k102 v1 v3 v5 σ = some (r, σ2)) : Rc none (Ev MT CT d) sg7 (102, [(0, .ref 71), (1, .int v1), (2, .ref 113), (3, .long v3), (5, .int v5)], [], σ) (fun v s => v = none ∧ s = σ2) := by
  unfold j_relation_71_113_H102 at h
  refine Rc.blk (c := [_]) (s2 := (if (σ.1 71 2) ≤ v5 then 152 else 111, [(0, .ref 71), (1, .int v1), (2, .ref 113), (3, .long v3), (5, .int v5)], [], σ)) 17 rfl rfl (conj_c (rfl) (trivial)) ?_
  by_cases c8 : (σ.1 71 2) ≤ v5
  · rw [if_pos c8] at h
    refine Rc.ifp c8 ?_
    obtain ⟨rfl, rfl⟩ := some_pair h
    exact Rc.ret 23 rfl rfl rfl trivial ⟨rfl, rfl⟩
  · rw [if_neg c8] at h
    refine Rc.ifn c8 ?_
    refine Rc.blk (c := [_]) (s2 := (117, [(0, .ref 71), (1, .int v1), (2, .ref 113), (3, .long v3), (5, .int v5)], [.int v5, .int (σ.1 71 4)], σ)) 18 rfl rfl (conj_c (rfl) (trivial)) ?_
    obtain ⟨r1, σ1, hc, h⟩ := bd_some h
    refine Rc.call (Ev.mono d) (v := some (.int r1)) (as := [.int (σ.1 71 4), .int v5]) (r := []) 19 rfl rfl rfl rfl (Nat.le_of_ble_eq_true rfl) (j_bit_s_ok (by omega) hc) ?_
    show Rc _ _ _ (120, [(0, .ref 71), (1, .int v1), (2, .ref 113), (3, .long v3), (5, .int v5)], [.int r1], σ1) _
    refine Rc.blk (c := []) (s2 := (if ¬ r1 = 1 then 146 else 124, [(0, .ref 71), (1, .int v1), (2, .ref 113), (3, .long v3), (5, .int v5)], [], σ1)) 20 rfl rfl (trivial) ?_
    by_cases c7 : r1 = 1
    · rw [if_pos c7] at h
      refine Rc.ifn (fun q => q c7) ?_
      obtain ⟨g2, h⟩ := gd_some h
      obtain ⟨g3, h⟩ := gd_some h
      obtain ⟨g4, h⟩ := gd_some h
      obtain ⟨g5, h⟩ := gd_some h
      obtain ⟨g6, h⟩ := gd_some h
      refine Rc.blk (c := [_, _, _, _, _, _, _]) (s2 := (146, [(0, .ref 71), (1, .int v1), (2, .ref 113), (3, .long v3), (5, .int v5)], [], si σ1 113 v5.toNatClampNeg (((-(σ1.2 (72 + 1 + (σ1.1 78 v5.toNatClampNeg).toNatClampNeg) v1.toNatClampNeg)) / v3).toInt32))) 21 rfl rfl (conj_c (rfl) (conj_c (rfl) (conj_c (⟨rfl, inB_in g2⟩) (conj_c (⟨Or.inr rfl, inB_in g3⟩) (conj_c (arB_in g4) (conj_c (neBL_ne g5) (conj_c (⟨rfl, inB_in g6⟩) (trivial)))))))) ?_
      exact j_relation_71_113_b146_ok hd hk102 _ _ _ _ _ _ h
    · rw [if_neg c7] at h
      refine Rc.ifp c7 ?_
      exact j_relation_71_113_b146_ok hd hk102 _ _ _ _ _ _ h
theorem j_relation_71_113_L102_ok {d : Nat} (hd : 1 ≤ d) : ∀ (n : Nat) (v1 : Int32) (v3 : Int64) (v5 : Int32) (σ : Sg) (r : Unit) (σ2 : Sg), j_relation_71_113_L102 n v1 v3 v5 σ = some (r, σ2) → Rc none (Ev MT CT d) sg7 (102, [(0, .ref 71), (1, .int v1), (2, .ref 113), (3, .long v3), (5, .int v5)], [], σ) (fun v s => v = none ∧ s = σ2)
  | 0, _, _, _, _, _, _, h => by cases h
  | n + 1, v1, v3, v5, σ, r, σ2, h => j_relation_71_113_H102_ok hd (j_relation_71_113_L102_ok hd n) v1 v3 v5 σ r σ2 h
theorem j_relation_71_113_b88_ok {d : Nat} (hd : 1 ≤ d) (v1 : Int32) (s0 : Int64) (σ : Sg) (r : Unit) (σ2 : Sg) (h : j_relation_71_113_b88 v1 s0 σ = some (r, σ2)) : Rc none (Ev MT CT d) sg7 (88, [(0, .ref 71), (1, .int v1), (2, .ref 113)], [.long s0], σ) (fun v s => v = none ∧ s = σ2) := by
  unfold j_relation_71_113_b88 at h
  obtain ⟨g1, h⟩ := gd_some h
  obtain ⟨g2, h⟩ := gd_some h
  refine Rc.blk (c := [_, _, _]) (s2 := (102, [(5, .int 0), (3, .long s0), (0, .ref 71), (1, .int v1), (2, .ref 113)], [], si σ 113 v1.toNatClampNeg (((σ.2 71 5) / s0).toInt32))) 16 rfl rfl (conj_c (rfl) (conj_c (neBL_ne g1) (conj_c (⟨rfl, inB_in g2⟩) (trivial)))) ?_
  refine Rc.pick [2, 3, 4, 1, 0] (lv2 := [(0, .ref 71), (1, .int v1), (2, .ref 113), (3, .long s0), (5, .int 0)]) rfl ?_
  exact j_relation_71_113_L102_ok hd fu _ _ _ _ _ _ h
theorem j_relation_71_113_b54_ok {d : Nat} (hd : 1 ≤ d) {k13 : Int32 → Int64 → Int32 → Sg → Option (Unit × Sg)} (hk13 : ∀ (v1 : Int32) (v3 : Int64) (v5 : Int32) (σ : Sg) (r : Unit) (σ2 : Sg), k13 v1 v3 v5 σ = some (r, σ2) → Rc none (Ev MT CT d) sg7 (13, [(0, .ref 71), (1, .int v1), (2, .ref 113), (3, .long v3), (5, .int v5)], [], σ) (fun v s => v = none ∧ s = σ2)) (v1 : Int32) (v3 : Int64) (v5 : Int32) (σ : Sg) (r : Unit) (σ2 : Sg) (h : j_relation_71_113_b54 k13 v1 v3 v5 σ = some (r, σ2)) : Rc none (Ev MT CT d) sg7 (54, [(0, .ref 71), (1, .int v1), (2, .ref 113), (3, .long v3), (5, .int v5)], [], σ) (fun v s => v = none ∧ s = σ2) := by
  unfold j_relation_71_113_b54 at h
  refine Rc.blk (c := []) (s2 := (13, [(5, .int (v5 + 1)), (0, .ref 71), (1, .int v1), (2, .ref 113), (3, .long v3)], [], σ)) 10 rfl rfl (trivial) ?_
  refine Rc.pick [1, 2, 3, 4, 0] (lv2 := [(0, .ref 71), (1, .int v1), (2, .ref 113), (3, .long v3), (5, .int (v5 + 1))]) rfl ?_
  exact hk13 _ _ _ _ _ _ h
theorem j_relation_71_113_H13_ok {d : Nat} (hd : 1 ≤ d) {k13 : Int32 → Int64 → Int32 → Sg → Option (Unit × Sg)} (hk13 : ∀ (v1 : Int32) (v3 : Int64) (v5 : Int32) (σ : Sg) (r : Unit) (σ2 : Sg), k13 v1 v3 v5 σ = some (r, σ2) → Rc none (Ev MT CT d) sg7 (13, [(0, .ref 71), (1, .int v1), (2, .ref 113), (3, .long v3), (5, .int v5)], [], σ) (fun v s => v = none ∧ s = σ2)) (v1 : Int32) (v3 : Int64) (v5 : Int32) (σ : Sg) (r : Unit) (σ2 : Sg) (h : j_relation_71_113_H13 k13 v1 v3 v5 σ = some (r, σ2)) : Rc none (Ev MT CT d) sg7 (13, [(0, .ref 71), (1, .int v1), (2, .ref 113), (3, .long v3), (5, .int v5)], [], σ) (fun v s => v = none ∧ s = σ2) := by
  unfold j_relation_71_113_H13 at h
  refine Rc.blk (c := [_]) (s2 := (if (σ.1 71 2) ≤ v5 then 60 else 22, [(0, .ref 71), (1, .int v1), (2, .ref 113), (3, .long v3), (5, .int v5)], [], σ)) 3 rfl rfl (conj_c (rfl) (trivial)) ?_
  by_cases c9 : (σ.1 71 2) ≤ v5
  · rw [if_pos c9] at h
    refine Rc.ifp c9 ?_
    refine Rc.blk (c := []) (s2 := (if ¬ (lg_cmp v3 0) = 0 then 67 else 66, [(0, .ref 71), (1, .int v1), (2, .ref 113), (3, .long v3), (5, .int v5)], [], σ)) 11 rfl rfl (trivial) ?_
    by_cases c2 : (lg_cmp v3 0) = 0
    · rw [if_pos c2] at h
      refine Rc.ifn (fun q => q c2) ?_
      obtain ⟨rfl, rfl⟩ := some_pair h
      exact Rc.ret 12 rfl rfl rfl trivial ⟨rfl, rfl⟩
    · rw [if_neg c2] at h
      refine Rc.ifp c2 ?_
      refine Rc.blk (c := [_]) (s2 := (if 0 ≤ (lg_cmp (σ.2 71 5) 0) then 84 else 76, [(0, .ref 71), (1, .int v1), (2, .ref 113), (3, .long v3), (5, .int v5)], [], σ)) 13 rfl rfl (conj_c (rfl) (trivial)) ?_
      by_cases c1 : 0 ≤ (lg_cmp (σ.2 71 5) 0)
      · rw [if_pos c1] at h
        refine Rc.ifp c1 ?_
        refine Rc.blk (c := [_]) (s2 := (88, [(0, .ref 71), (1, .int v1), (2, .ref 113), (3, .long v3), (5, .int v5)], [.long (labs v3)], σ)) 15 rfl rfl (conj_c (Nat.le_of_ble_eq_true rfl) (trivial)) ?_
        refine Rc.pick [0, 1, 2] (lv2 := [(0, .ref 71), (1, .int v1), (2, .ref 113)]) rfl ?_
        exact j_relation_71_113_b88_ok hd _ _ _ _ _ h
      · rw [if_neg c1] at h
        refine Rc.ifn c1 ?_
        refine Rc.blk (c := [_]) (s2 := (88, [(0, .ref 71), (1, .int v1), (2, .ref 113), (3, .long v3), (5, .int v5)], [.long (-(labs v3))], σ)) 14 rfl rfl (conj_c (Nat.le_of_ble_eq_true rfl) (trivial)) ?_
        refine Rc.pick [0, 1, 2] (lv2 := [(0, .ref 71), (1, .int v1), (2, .ref 113)]) rfl ?_
        exact j_relation_71_113_b88_ok hd _ _ _ _ _ h
  · rw [if_neg c9] at h
    refine Rc.ifn c9 ?_
    refine Rc.blk (c := [_]) (s2 := (28, [(0, .ref 71), (1, .int v1), (2, .ref 113), (3, .long v3), (5, .int v5)], [.int v5, .int (σ.1 71 4)], σ)) 4 rfl rfl (conj_c (rfl) (trivial)) ?_
    obtain ⟨r3, σ3, hc, h⟩ := bd_some h
    refine Rc.call (Ev.mono d) (v := some (.int r3)) (as := [.int (σ.1 71 4), .int v5]) (r := []) 5 rfl rfl rfl rfl (Nat.le_of_ble_eq_true rfl) (j_bit_s_ok (by omega) hc) ?_
    show Rc _ _ _ (31, [(0, .ref 71), (1, .int v1), (2, .ref 113), (3, .long v3), (5, .int v5)], [.int r3], σ3) _
    refine Rc.blk (c := []) (s2 := (if ¬ r3 = 1 then 54 else 35, [(0, .ref 71), (1, .int v1), (2, .ref 113), (3, .long v3), (5, .int v5)], [], σ3)) 6 rfl rfl (trivial) ?_
    by_cases c8 : r3 = 1
    · rw [if_pos c8] at h
      refine Rc.ifn (fun q => q c8) ?_
      obtain ⟨g4, h⟩ := gd_some h
      obtain ⟨g5, h⟩ := gd_some h
      obtain ⟨g6, h⟩ := gd_some h
      refine Rc.blk (c := [_, _, _, _, _]) (s2 := (50, [(0, .ref 71), (1, .int v1), (2, .ref 113), (3, .long v3), (5, .int v5)], [.long (σ3.2 (72 + 1 + (σ3.1 78 v5.toNatClampNeg).toNatClampNeg) v1.toNatClampNeg), .long v3], σ3)) 7 rfl rfl (conj_c (rfl) (conj_c (rfl) (conj_c (⟨rfl, inB_in g4⟩) (conj_c (⟨Or.inr rfl, inB_in g5⟩) (conj_c (arB_in g6) (trivial)))))) ?_
      obtain ⟨r7, σ7, hc, h⟩ := bd_some h
      refine Rc.call (Ev.mono d) (v := some (.long r7)) (as := [.long v3, .long (σ3.2 (72 + 1 + (σ3.1 78 v5.toNatClampNeg).toNatClampNeg) v1.toNatClampNeg)]) (r := []) 8 rfl rfl rfl rfl (Nat.le_of_ble_eq_true rfl) (j_greatestDivisor_s_ok (by omega) hc) ?_
      show Rc _ _ _ (53, [(0, .ref 71), (1, .int v1), (2, .ref 113), (3, .long v3), (5, .int v5)], [.long r7], σ7) _
      refine Rc.blk (c := []) (s2 := (54, [(3, .long r7), (0, .ref 71), (1, .int v1), (2, .ref 113), (5, .int v5)], [], σ7)) 9 rfl rfl (trivial) ?_
      refine Rc.pick [1, 2, 3, 0, 4] (lv2 := [(0, .ref 71), (1, .int v1), (2, .ref 113), (3, .long r7), (5, .int v5)]) rfl ?_
      exact j_relation_71_113_b54_ok hd hk13 _ _ _ _ _ _ h
    · rw [if_neg c8] at h
      refine Rc.ifp c8 ?_
      exact j_relation_71_113_b54_ok hd hk13 _ _ _ _ _ _ h
theorem j_relation_71_113_L13_ok {d : Nat} (hd : 1 ≤ d) : ∀ (n : Nat) (v1 : Int32) (v3 : Int64) (v5 : Int32) (σ : Sg) (r : Unit) (σ2 : Sg), j_relation_71_113_L13 n v1 v3 v5 σ = some (r, σ2) → Rc none (Ev MT CT d) sg7 (13, [(0, .ref 71), (1, .int v1), (2, .ref 113), (3, .long v3), (5, .int v5)], [], σ) (fun v s => v = none ∧ s = σ2)
  | 0, _, _, _, _, _, _, h => by cases h
  | n + 1, v1, v3, v5, σ, r, σ2, h => j_relation_71_113_H13_ok hd (j_relation_71_113_L13_ok hd n) v1 v3 v5 σ r σ2 h
theorem j_relation_71_113_ok {d : Nat} (hd : 2 ≤ d) {v1 : Int32} {σ : Sg} {r : Unit} {σ2 : Sg} (h : j_relation_71_113 v1 σ = some (r, σ2)) : Ev MT CT d 7 [.ref 71, .int v1, .ref 113] σ (fun v s => v = none ∧ s = σ2) := by
  obtain ⟨d, rfl⟩ : ∃ e, d = e + 1 := ⟨d - 1, by omega⟩
  refine ⟨Nat.le_of_ble_eq_true rfl, ?_⟩
  show Rc none (Ev MT CT d) sg7 (0, [(0, .ref 71), (1, .int v1), (2, .ref 113)], [], σ) _
  unfold j_relation_71_113 at h
  have hd : 1 ≤ d := by omega
  refine Rc.blk (c := []) (s2 := (2, [(0, .ref 71), (1, .int v1), (2, .ref 113)], [.int 0, .ref 113], σ)) 0 rfl rfl (trivial) ?_
  obtain ⟨r1, σ1, hc, h⟩ := bd_some h
  refine Rc.call (Ev.mono d) (v := none) (as := [.ref 113, .int 0]) (r := []) 1 rfl rfl rfl rfl (Nat.le_of_ble_eq_true rfl) (j_fillAII_113_ok (by omega) hc) ?_
  show Rc _ _ _ (5, [(0, .ref 71), (1, .int v1), (2, .ref 113)], [], σ1) _
  refine Rc.blk (c := [_]) (s2 := (13, [(5, .int 0), (3, .long (σ1.2 71 5)), (0, .ref 71), (1, .int v1), (2, .ref 113)], [], σ1)) 2 rfl rfl (conj_c (rfl) (trivial)) ?_
  refine Rc.pick [2, 3, 4, 1, 0] (lv2 := [(0, .ref 71), (1, .int v1), (2, .ref 113), (3, .long (σ1.2 71 5)), (5, .int 0)]) rfl ?_
  exact j_relation_71_113_L13_ok hd fu _ _ _ _ _ _ h
theorem j_isOutside_0_b29_ok {d : Nat} (hd : 1 ≤ d) (s0 : Int32) (σ : Sg) (r : Int32) (σ2 : Sg) (h : j_isOutside_0_b29 s0 σ = some (r, σ2)) : Rc none (Ev MT CT d) sg106 (29, [], [.int s0], σ) (fun v s => v = some (.int r) ∧ s = σ2) := by
  unfold j_isOutside_0_b29 at h
  obtain ⟨g, h⟩ := gd_some h
  obtain ⟨rfl, rfl⟩ := some_pair h
  exact Rc.ret 11 rfl rfl rfl (nbB_ok g) ⟨rfl, rfl⟩
theorem j_isOutside_0_b28_ok {d : Nat} (hd : 1 ≤ d) (σ : Sg) (r : Int32) (σ2 : Sg) (h : j_isOutside_0_b28 σ = some (r, σ2)) : Rc none (Ev MT CT d) sg106 (28, [], [], σ) (fun v s => v = some (.int r) ∧ s = σ2) := by
  unfold j_isOutside_0_b28 at h
  refine Rc.blk (c := []) (s2 := (29, [], [.int 0], σ)) 10 rfl rfl (trivial) ?_
  exact j_isOutside_0_b29_ok hd _ _ _ _ h
theorem j_isOutside_0_ok {d : Nat} (hd : 2 ≤ d) {v1 : Int32} {v2 : Int32} {σ : Sg} {r : Int32} {σ2 : Sg} (h : j_isOutside_0 v1 v2 σ = some (r, σ2)) : Ev MT CT d 106 [.ref 0, .int v1, .int v2] σ (fun v s => v = some (.int r) ∧ s = σ2) := by
  obtain ⟨d, rfl⟩ : ∃ e, d = e + 1 := ⟨d - 1, by omega⟩
  refine ⟨Nat.le_of_ble_eq_true rfl, ?_⟩
  show Rc none (Ev MT CT d) sg106 (0, [(0, .ref 0), (1, .int v1), (2, .int v2)], [], σ) _
  unfold j_isOutside_0 at h
  have hd : 1 ≤ d := by omega
  refine Rc.blk (c := []) (s2 := (2, [(0, .ref 0), (1, .int v1), (2, .int v2)], [.int v1, .ref 0], σ)) 0 rfl rfl (trivial) ?_
  obtain ⟨r1, σ1, hc, h⟩ := bd_some h
  refine Rc.call (Ev.mono d) (v := some (.int r1)) (as := [.ref 0, .int v1]) (r := []) 1 rfl rfl rfl rfl ⟨rfl, Nat.le_of_ble_eq_true rfl⟩ (j_isSet_0_ok (by omega) hc) ?_
  show Rc _ _ _ (5, [(0, .ref 0), (1, .int v1), (2, .int v2)], [.int r1], σ1) _
  refine Rc.blk (c := []) (s2 := (if r1 = 0 then 28 else 8, [(0, .ref 0), (1, .int v1), (2, .int v2)], [], σ1)) 2 rfl rfl (trivial) ?_
  by_cases c6 : r1 = 0
  · rw [if_pos c6] at h
    refine Rc.ifp c6 ?_
    refine Rc.pick [] (lv2 := []) rfl ?_
    exact j_isOutside_0_b28_ok hd _ _ _ h
  · rw [if_neg c6] at h
    refine Rc.ifn c6 ?_
    refine Rc.blk (c := []) (s2 := (10, [(0, .ref 0), (1, .int v1), (2, .int v2)], [.int v2, .ref 0], σ1)) 3 rfl rfl (trivial) ?_
    obtain ⟨r2, σ2, hc, h⟩ := bd_some h
    refine Rc.call (Ev.mono d) (v := some (.int r2)) (as := [.ref 0, .int v2]) (r := []) 4 rfl rfl rfl rfl ⟨rfl, Nat.le_of_ble_eq_true rfl⟩ (j_isQuantity_0_ok (by omega) hc) ?_
    show Rc _ _ _ (13, [(0, .ref 0), (1, .int v1), (2, .int v2)], [.int r2], σ2) _
    refine Rc.blk (c := []) (s2 := (if r2 = 0 then 28 else 16, [(0, .ref 0), (1, .int v1), (2, .int v2)], [], σ2)) 5 rfl rfl (trivial) ?_
    by_cases c5 : r2 = 0
    · rw [if_pos c5] at h
      refine Rc.ifp c5 ?_
      refine Rc.pick [] (lv2 := []) rfl ?_
      exact j_isOutside_0_b28_ok hd _ _ _ h
    · rw [if_neg c5] at h
      refine Rc.ifn c5 ?_
      refine Rc.blk (c := []) (s2 := (18, [(0, .ref 0), (1, .int v1), (2, .int v2)], [.int v2, .int v1], σ2)) 6 rfl rfl (trivial) ?_
      obtain ⟨r3, σ3, hc, h⟩ := bd_some h
      refine Rc.call (Ev.mono d) (v := some (.int r3)) (as := [.int v1, .int v2]) (r := []) 7 rfl rfl rfl rfl (Nat.le_of_ble_eq_true rfl) (j_bit_s_ok (by omega) hc) ?_
      show Rc _ _ _ (21, [(0, .ref 0), (1, .int v1), (2, .int v2)], [.int r3], σ3) _
      refine Rc.blk (c := []) (s2 := (if ¬ r3 = 0 then 28 else 24, [(0, .ref 0), (1, .int v1), (2, .int v2)], [], σ3)) 8 rfl rfl (trivial) ?_
      by_cases c4 : r3 = 0
      · rw [if_pos c4] at h
        refine Rc.ifn (fun q => q c4) ?_
        refine Rc.blk (c := []) (s2 := (29, [(0, .ref 0), (1, .int v1), (2, .int v2)], [.int 1], σ3)) 9 rfl rfl (trivial) ?_
        refine Rc.pick [] (lv2 := []) rfl ?_
        exact j_isOutside_0_b29_ok hd _ _ _ _ h
      · rw [if_neg c4] at h
        refine Rc.ifp c4 ?_
        refine Rc.pick [] (lv2 := []) rfl ?_
        exact j_isOutside_0_b28_ok hd _ _ _ h
theorem j_rest_0_b17_ok {d : Nat} (hd : 3 ≤ d) (σ : Sg) (r : Int32) (σ2 : Sg) (h : j_rest_0_b17 σ = some (r, σ2)) : Rc none (Ev MT CT d) sg70 (17, [(0, .ref 0)], [], σ) (fun v s => v = some (.int r) ∧ s = σ2) := by
  unfold j_rest_0_b17 at h
  refine Rc.blk (c := []) (s2 := (19, [(0, .ref 0)], [.int (-1), .ref 0], σ)) 6 rfl rfl (trivial) ?_
  obtain ⟨r1, σ1, hc, h⟩ := bd_some h
  refine Rc.call (Ev.mono d) (v := some (.int r1)) (as := [.ref 0, .int (-1)]) (r := []) 7 rfl rfl rfl rfl ⟨rfl, Nat.le_of_ble_eq_true rfl⟩ (j_refusedFar_0_ok (by omega) hc) ?_
  show Rc _ _ _ (22, [(0, .ref 0)], [.int r1], σ1) _
  obtain ⟨rfl, rfl⟩ := some_pair h
  exact Rc.ret 8 rfl rfl rfl trivial ⟨rfl, rfl⟩
theorem j_rest_0_ok {d : Nat} (hd : 4 ≤ d) {v1 : Int32} {v2 : Int32} {v3 : Int32} {σ : Sg} {r : Int32} {σ2 : Sg} (h : j_rest_0 v1 v2 v3 σ = some (r, σ2)) : Ev MT CT d 70 [.ref 0, .int v1, .int v2, .int v3] σ (fun v s => v = some (.int r) ∧ s = σ2) := by
  obtain ⟨d, rfl⟩ : ∃ e, d = e + 1 := ⟨d - 1, by omega⟩
  refine ⟨Nat.le_of_ble_eq_true rfl, ?_⟩
  show Rc none (Ev MT CT d) sg70 (0, [(0, .ref 0), (1, .int v1), (2, .int v2), (3, .int v3)], [], σ) _
  unfold j_rest_0 at h
  have hd : 3 ≤ d := by omega
  refine Rc.blk (c := []) (s2 := (3, [(0, .ref 0), (1, .int v1), (2, .int v2), (3, .int v3)], [.int v2, .int v1, .ref 0], σ)) 0 rfl rfl (trivial) ?_
  obtain ⟨r1, σ1, hc, h⟩ := bd_some h
  refine Rc.call (Ev.mono d) (v := some (.int r1)) (as := [.ref 0, .int v1, .int v2]) (r := []) 1 rfl rfl rfl rfl ⟨rfl, Nat.le_of_ble_eq_true rfl⟩ (j_isOutside_0_ok (by omega) hc) ?_
  show Rc _ _ _ (6, [(0, .ref 0), (1, .int v1), (2, .int v2), (3, .int v3)], [.int r1], σ1) _
  refine Rc.blk (c := []) (s2 := (if r1 = 0 then 17 else 9, [(0, .ref 0), (1, .int v1), (2, .int v2), (3, .int v3)], [], σ1)) 2 rfl rfl (trivial) ?_
  by_cases c9 : r1 = 0
  · rw [if_pos c9] at h
    refine Rc.ifp c9 ?_
    refine Rc.pick [0] (lv2 := [(0, .ref 0)]) rfl ?_
    exact j_rest_0_b17_ok hd _ _ _ h
  · rw [if_neg c9] at h
    refine Rc.ifn c9 ?_
    refine Rc.blk (c := []) (s2 := (11, [(0, .ref 0), (1, .int v1), (2, .int v2), (3, .int v3)], [.int v3, .ref 0], σ1)) 3 rfl rfl (trivial) ?_
    obtain ⟨r2, σ2, hc, h⟩ := bd_some h
    refine Rc.call (Ev.mono d) (v := some (.int r2)) (as := [.ref 0, .int v3]) (r := []) 4 rfl rfl rfl rfl ⟨rfl, Nat.le_of_ble_eq_true rfl⟩ (j_isQuantity_0_ok (by omega) hc) ?_
    show Rc _ _ _ (14, [(0, .ref 0), (1, .int v1), (2, .int v2), (3, .int v3)], [.int r2], σ2) _
    refine Rc.blk (c := []) (s2 := (if ¬ r2 = 0 then 23 else 17, [(0, .ref 0), (1, .int v1), (2, .int v2), (3, .int v3)], [], σ2)) 5 rfl rfl (trivial) ?_
    by_cases c8 : r2 = 0
    · rw [if_pos c8] at h
      refine Rc.ifn (fun q => q c8) ?_
      refine Rc.pick [0] (lv2 := [(0, .ref 0)]) rfl ?_
      exact j_rest_0_b17_ok hd _ _ _ h
    · rw [if_neg c8] at h
      refine Rc.ifp c8 ?_
      refine Rc.blk (c := [_]) (s2 := (28, [(0, .ref 0), (1, .int v1), (2, .int v2), (3, .int v3)], [.int v1, .ref 70], σ2)) 9 rfl rfl (conj_c (rfl) (trivial)) ?_
      obtain ⟨r3, σ3, hc, h⟩ := bd_some h
      refine Rc.call (Ev.mono d) (v := some (.int r3)) (as := [.ref 70, .int v1]) (r := []) 10 rfl rfl rfl rfl ⟨rfl, Nat.le_of_ble_eq_true rfl⟩ (j_choose_70_ok (by omega) hc) ?_
      show Rc _ _ _ (31, [(0, .ref 0), (1, .int v1), (2, .int v2), (3, .int v3)], [.int r3], σ3) _
      refine Rc.blk (c := []) (s2 := (if ¬ r3 = 0 then 41 else 34, [(0, .ref 0), (1, .int v1), (2, .int v2), (3, .int v3)], [], σ3)) 11 rfl rfl (trivial) ?_
      by_cases c7 : r3 = 0
      · rw [if_pos c7] at h
        refine Rc.ifn (fun q => q c7) ?_
        refine Rc.blk (c := []) (s2 := (37, [(0, .ref 0), (1, .int v1), (2, .int v2), (3, .int v3)], [.int (-3), .ref 0], σ3)) 12 rfl rfl (trivial) ?_
        obtain ⟨r6, σ6, hc, h⟩ := bd_some h
        refine Rc.call (Ev.mono d) (v := some (.int r6)) (as := [.ref 0, .int (-3)]) (r := []) 13 rfl rfl rfl rfl ⟨rfl, Nat.le_of_ble_eq_true rfl⟩ (j_refusedFar_0_ok (by omega) hc) ?_
        show Rc _ _ _ (40, [(0, .ref 0), (1, .int v1), (2, .int v2), (3, .int v3)], [.int r6], σ6) _
        obtain ⟨rfl, rfl⟩ := some_pair h
        exact Rc.ret 14 rfl rfl rfl trivial ⟨rfl, rfl⟩
      · rw [if_neg c7] at h
        refine Rc.ifp c7 ?_
        refine Rc.blk (c := [_, _, _]) (s2 := (53, [(0, .ref 0), (1, .int v1), (2, .int v2), (3, .int v3)], [.ref 113, .int v2, .ref 71], σ3)) 15 rfl rfl (conj_c (rfl) (conj_c (rfl) (conj_c (rfl) (trivial)))) ?_
        obtain ⟨r4, σ4, hc, h⟩ := bd_some h
        refine Rc.call (Ev.mono d) (v := none) (as := [.ref 71, .int v2, .ref 113]) (r := []) 16 rfl rfl rfl rfl ⟨rfl, Nat.le_of_ble_eq_true rfl⟩ (j_relation_71_113_ok (by omega) hc) ?_
        show Rc _ _ _ (56, [(0, .ref 0), (1, .int v1), (2, .int v2), (3, .int v3)], [], σ4) _
        obtain ⟨g5, h⟩ := gd_some h
        refine Rc.blk (c := [_, _]) (s2 := (62, [(0, .ref 0), (1, .int v1), (2, .int v2), (3, .int v3)], [.int (σ4.1 113 v3.toNatClampNeg)], σ4)) 17 rfl rfl (conj_c (rfl) (conj_c (⟨rfl, inB_in g5⟩) (trivial))) ?_
        obtain ⟨rfl, rfl⟩ := some_pair h
        exact Rc.ret 18 rfl rfl rfl trivial ⟨rfl, rfl⟩
theorem j_fillAII_79_H5_ok {d : Nat} (hd : 0 ≤ d) {k5 : Int32 → Int32 → Int32 → Sg → Option (Unit × Sg)} (hk5 : ∀ (v1 : Int32) (v2 : Int32) (v3 : Int32) (σ : Sg) (r : Unit) (σ2 : Sg), k5 v1 v2 v3 σ = some (r, σ2) → Rc none (Ev MT CT d) sg230 (5, [(0, .ref 79), (1, .int v1), (2, .int v2), (3, .int v3)], [], σ) (fun v s => v = none ∧ s = σ2)) (v1 : Int32) (v2 : Int32) (v3 : Int32) (σ : Sg) (r : Unit) (σ2 : Sg) (h : j_fillAII_79_H5 k5 v1 v2 v3 σ = some (r, σ2)) : Rc none (Ev MT CT d) sg230 (5, [(0, .ref 79), (1, .int v1), (2, .int v2), (3, .int v3)], [], σ) (fun v s => v = none ∧ s = σ2) := by
  unfold j_fillAII_79_H5 at h
  refine Rc.blk (c := []) (s2 := (if v3 ≤ v2 then 20 else 10, [(0, .ref 79), (1, .int v1), (2, .int v2), (3, .int v3)], [], σ)) 1 rfl rfl (trivial) ?_
  by_cases c2 : v3 ≤ v2
  · rw [if_pos c2] at h
    refine Rc.ifp c2 ?_
    obtain ⟨rfl, rfl⟩ := some_pair h
    exact Rc.ret 3 rfl rfl rfl trivial ⟨rfl, rfl⟩
  · rw [if_neg c2] at h
    refine Rc.ifn c2 ?_
    obtain ⟨g1, h⟩ := gd_some h
    refine Rc.blk (c := [_]) (s2 := (5, [(2, .int (v2 + 1)), (0, .ref 79), (1, .int v1), (3, .int v3)], [], si σ 79 v2.toNatClampNeg v1)) 2 rfl rfl (conj_c (⟨rfl, inB_in g1⟩) (trivial)) ?_
    refine Rc.pick [1, 2, 0, 3] (lv2 := [(0, .ref 79), (1, .int v1), (2, .int (v2 + 1)), (3, .int v3)]) rfl ?_
    exact hk5 _ _ _ _ _ _ h
theorem j_fillAII_79_L5_ok {d : Nat} (hd : 0 ≤ d) : ∀ (n : Nat) (v1 : Int32) (v2 : Int32) (v3 : Int32) (σ : Sg) (r : Unit) (σ2 : Sg), j_fillAII_79_L5 n v1 v2 v3 σ = some (r, σ2) → Rc none (Ev MT CT d) sg230 (5, [(0, .ref 79), (1, .int v1), (2, .int v2), (3, .int v3)], [], σ) (fun v s => v = none ∧ s = σ2)
  | 0, _, _, _, _, _, _, h => by cases h
  | n + 1, v1, v2, v3, σ, r, σ2, h => j_fillAII_79_H5_ok hd (j_fillAII_79_L5_ok hd n) v1 v2 v3 σ r σ2 h
theorem j_fillAII_79_ok {d : Nat} (hd : 1 ≤ d) {v1 : Int32} {σ : Sg} {r : Unit} {σ2 : Sg} (h : j_fillAII_79 v1 σ = some (r, σ2)) : Ev MT CT d 230 [.ref 79, .int v1] σ (fun v s => v = none ∧ s = σ2) := by
  obtain ⟨d, rfl⟩ : ∃ e, d = e + 1 := ⟨d - 1, by omega⟩
  refine ⟨Nat.le_of_ble_eq_true rfl, ?_⟩
  show Rc none (Ev MT CT d) sg230 (0, [(0, .ref 79), (1, .int v1)], [], σ) _
  unfold j_fillAII_79 at h
  have hd : 0 ≤ d := by omega
  refine Rc.blk (c := [_]) (s2 := (5, [(3, .int 8), (2, .int 0), (0, .ref 79), (1, .int v1)], [], σ)) 0 rfl rfl (conj_c ((by decide)) (trivial)) ?_
  refine Rc.pick [2, 3, 1, 0] (lv2 := [(0, .ref 79), (1, .int v1), (2, .int 0), (3, .int 8)]) rfl ?_
  exact j_fillAII_79_L5_ok hd fu _ _ _ _ _ _ h
theorem j_relation_71_79_b146_ok {d : Nat} (hd : 1 ≤ d) {k102 : Int32 → Int64 → Int32 → Sg → Option (Unit × Sg)} (hk102 : ∀ (v1 : Int32) (v3 : Int64) (v5 : Int32) (σ : Sg) (r : Unit) (σ2 : Sg), k102 v1 v3 v5 σ = some (r, σ2) → Rc none (Ev MT CT d) sg7 (102, [(0, .ref 71), (1, .int v1), (2, .ref 79), (3, .long v3), (5, .int v5)], [], σ) (fun v s => v = none ∧ s = σ2)) (v1 : Int32) (v3 : Int64) (v5 : Int32) (σ : Sg) (r : Unit) (σ2 : Sg) (h : j_relation_71_79_b146 k102 v1 v3 v5 σ = some (r, σ2)) : Rc none (Ev MT CT d) sg7 (146, [(0, .ref 71), (1, .int v1), (2, .ref 79), (3, .long v3), (5, .int v5)], [], σ) (fun v s => v = none ∧ s = σ2) := by
  unfold j_relation_71_79_b146 at h
  refine Rc.blk (c := []) (s2 := (102, [(5, .int (v5 + 1)), (0, .ref 71), (1, .int v1), (2, .ref 79), (3, .long v3)], [], σ)) 22 rfl rfl (trivial) ?_
  refine Rc.pick [1, 2, 3, 4, 0] (lv2 := [(0, .ref 71), (1, .int v1), (2, .ref 79), (3, .long v3), (5, .int (v5 + 1))]) rfl ?_
  exact hk102 _ _ _ _ _ _ h
theorem j_relation_71_79_H102_ok {d : Nat} (hd : 1 ≤ d) {k102 : Int32 → Int64 → Int32 → Sg → Option (Unit × Sg)} (hk102 : ∀ (v1 : Int32) (v3 : Int64) (v5 : Int32) (σ : Sg) (r : Unit) (σ2 : Sg), k102 v1 v3 v5 σ = some (r, σ2) → Rc none (Ev MT CT d) sg7 (102, [(0, .ref 71), (1, .int v1), (2, .ref 79), (3, .long v3), (5, .int v5)], [], σ) (fun v s => v = none ∧ s = σ2)) (v1 : Int32) (v3 : Int64) (v5 : Int32) (σ : Sg) (r : Unit) (σ2 : Sg) (h : j_relation_71_79_H102 k102 v1 v3 v5 σ = some (r, σ2)) : Rc none (Ev MT CT d) sg7 (102, [(0, .ref 71), (1, .int v1), (2, .ref 79), (3, .long v3), (5, .int v5)], [], σ) (fun v s => v = none ∧ s = σ2) := by
  unfold j_relation_71_79_H102 at h
  refine Rc.blk (c := [_]) (s2 := (if (σ.1 71 2) ≤ v5 then 152 else 111, [(0, .ref 71), (1, .int v1), (2, .ref 79), (3, .long v3), (5, .int v5)], [], σ)) 17 rfl rfl (conj_c (rfl) (trivial)) ?_
  by_cases c8 : (σ.1 71 2) ≤ v5
  · rw [if_pos c8] at h
    refine Rc.ifp c8 ?_
    obtain ⟨rfl, rfl⟩ := some_pair h
    exact Rc.ret 23 rfl rfl rfl trivial ⟨rfl, rfl⟩
  · rw [if_neg c8] at h
    refine Rc.ifn c8 ?_
    refine Rc.blk (c := [_]) (s2 := (117, [(0, .ref 71), (1, .int v1), (2, .ref 79), (3, .long v3), (5, .int v5)], [.int v5, .int (σ.1 71 4)], σ)) 18 rfl rfl (conj_c (rfl) (trivial)) ?_
    obtain ⟨r1, σ1, hc, h⟩ := bd_some h
    refine Rc.call (Ev.mono d) (v := some (.int r1)) (as := [.int (σ.1 71 4), .int v5]) (r := []) 19 rfl rfl rfl rfl (Nat.le_of_ble_eq_true rfl) (j_bit_s_ok (by omega) hc) ?_
    show Rc _ _ _ (120, [(0, .ref 71), (1, .int v1), (2, .ref 79), (3, .long v3), (5, .int v5)], [.int r1], σ1) _
    refine Rc.blk (c := []) (s2 := (if ¬ r1 = 1 then 146 else 124, [(0, .ref 71), (1, .int v1), (2, .ref 79), (3, .long v3), (5, .int v5)], [], σ1)) 20 rfl rfl (trivial) ?_
    by_cases c7 : r1 = 1
    · rw [if_pos c7] at h
      refine Rc.ifn (fun q => q c7) ?_
      obtain ⟨g2, h⟩ := gd_some h
      obtain ⟨g3, h⟩ := gd_some h
      obtain ⟨g4, h⟩ := gd_some h
      obtain ⟨g5, h⟩ := gd_some h
      obtain ⟨g6, h⟩ := gd_some h
      refine Rc.blk (c := [_, _, _, _, _, _, _]) (s2 := (146, [(0, .ref 71), (1, .int v1), (2, .ref 79), (3, .long v3), (5, .int v5)], [], si σ1 79 v5.toNatClampNeg (((-(σ1.2 (72 + 1 + (σ1.1 78 v5.toNatClampNeg).toNatClampNeg) v1.toNatClampNeg)) / v3).toInt32))) 21 rfl rfl (conj_c (rfl) (conj_c (rfl) (conj_c (⟨rfl, inB_in g2⟩) (conj_c (⟨Or.inr rfl, inB_in g3⟩) (conj_c (arB_in g4) (conj_c (neBL_ne g5) (conj_c (⟨rfl, inB_in g6⟩) (trivial)))))))) ?_
      exact j_relation_71_79_b146_ok hd hk102 _ _ _ _ _ _ h
    · rw [if_neg c7] at h
      refine Rc.ifp c7 ?_
      exact j_relation_71_79_b146_ok hd hk102 _ _ _ _ _ _ h
theorem j_relation_71_79_L102_ok {d : Nat} (hd : 1 ≤ d) : ∀ (n : Nat) (v1 : Int32) (v3 : Int64) (v5 : Int32) (σ : Sg) (r : Unit) (σ2 : Sg), j_relation_71_79_L102 n v1 v3 v5 σ = some (r, σ2) → Rc none (Ev MT CT d) sg7 (102, [(0, .ref 71), (1, .int v1), (2, .ref 79), (3, .long v3), (5, .int v5)], [], σ) (fun v s => v = none ∧ s = σ2)
  | 0, _, _, _, _, _, _, h => by cases h
  | n + 1, v1, v3, v5, σ, r, σ2, h => j_relation_71_79_H102_ok hd (j_relation_71_79_L102_ok hd n) v1 v3 v5 σ r σ2 h
theorem j_relation_71_79_b88_ok {d : Nat} (hd : 1 ≤ d) (v1 : Int32) (s0 : Int64) (σ : Sg) (r : Unit) (σ2 : Sg) (h : j_relation_71_79_b88 v1 s0 σ = some (r, σ2)) : Rc none (Ev MT CT d) sg7 (88, [(0, .ref 71), (1, .int v1), (2, .ref 79)], [.long s0], σ) (fun v s => v = none ∧ s = σ2) := by
  unfold j_relation_71_79_b88 at h
  obtain ⟨g1, h⟩ := gd_some h
  obtain ⟨g2, h⟩ := gd_some h
  refine Rc.blk (c := [_, _, _]) (s2 := (102, [(5, .int 0), (3, .long s0), (0, .ref 71), (1, .int v1), (2, .ref 79)], [], si σ 79 v1.toNatClampNeg (((σ.2 71 5) / s0).toInt32))) 16 rfl rfl (conj_c (rfl) (conj_c (neBL_ne g1) (conj_c (⟨rfl, inB_in g2⟩) (trivial)))) ?_
  refine Rc.pick [2, 3, 4, 1, 0] (lv2 := [(0, .ref 71), (1, .int v1), (2, .ref 79), (3, .long s0), (5, .int 0)]) rfl ?_
  exact j_relation_71_79_L102_ok hd fu _ _ _ _ _ _ h
theorem j_relation_71_79_b54_ok {d : Nat} (hd : 1 ≤ d) {k13 : Int32 → Int64 → Int32 → Sg → Option (Unit × Sg)} (hk13 : ∀ (v1 : Int32) (v3 : Int64) (v5 : Int32) (σ : Sg) (r : Unit) (σ2 : Sg), k13 v1 v3 v5 σ = some (r, σ2) → Rc none (Ev MT CT d) sg7 (13, [(0, .ref 71), (1, .int v1), (2, .ref 79), (3, .long v3), (5, .int v5)], [], σ) (fun v s => v = none ∧ s = σ2)) (v1 : Int32) (v3 : Int64) (v5 : Int32) (σ : Sg) (r : Unit) (σ2 : Sg) (h : j_relation_71_79_b54 k13 v1 v3 v5 σ = some (r, σ2)) : Rc none (Ev MT CT d) sg7 (54, [(0, .ref 71), (1, .int v1), (2, .ref 79), (3, .long v3), (5, .int v5)], [], σ) (fun v s => v = none ∧ s = σ2) := by
  unfold j_relation_71_79_b54 at h
  refine Rc.blk (c := []) (s2 := (13, [(5, .int (v5 + 1)), (0, .ref 71), (1, .int v1), (2, .ref 79), (3, .long v3)], [], σ)) 10 rfl rfl (trivial) ?_
  refine Rc.pick [1, 2, 3, 4, 0] (lv2 := [(0, .ref 71), (1, .int v1), (2, .ref 79), (3, .long v3), (5, .int (v5 + 1))]) rfl ?_
  exact hk13 _ _ _ _ _ _ h
theorem j_relation_71_79_H13_ok {d : Nat} (hd : 1 ≤ d) {k13 : Int32 → Int64 → Int32 → Sg → Option (Unit × Sg)} (hk13 : ∀ (v1 : Int32) (v3 : Int64) (v5 : Int32) (σ : Sg) (r : Unit) (σ2 : Sg), k13 v1 v3 v5 σ = some (r, σ2) → Rc none (Ev MT CT d) sg7 (13, [(0, .ref 71), (1, .int v1), (2, .ref 79), (3, .long v3), (5, .int v5)], [], σ) (fun v s => v = none ∧ s = σ2)) (v1 : Int32) (v3 : Int64) (v5 : Int32) (σ : Sg) (r : Unit) (σ2 : Sg) (h : j_relation_71_79_H13 k13 v1 v3 v5 σ = some (r, σ2)) : Rc none (Ev MT CT d) sg7 (13, [(0, .ref 71), (1, .int v1), (2, .ref 79), (3, .long v3), (5, .int v5)], [], σ) (fun v s => v = none ∧ s = σ2) := by
  unfold j_relation_71_79_H13 at h
  refine Rc.blk (c := [_]) (s2 := (if (σ.1 71 2) ≤ v5 then 60 else 22, [(0, .ref 71), (1, .int v1), (2, .ref 79), (3, .long v3), (5, .int v5)], [], σ)) 3 rfl rfl (conj_c (rfl) (trivial)) ?_
  by_cases c9 : (σ.1 71 2) ≤ v5
  · rw [if_pos c9] at h
    refine Rc.ifp c9 ?_
    refine Rc.blk (c := []) (s2 := (if ¬ (lg_cmp v3 0) = 0 then 67 else 66, [(0, .ref 71), (1, .int v1), (2, .ref 79), (3, .long v3), (5, .int v5)], [], σ)) 11 rfl rfl (trivial) ?_
    by_cases c2 : (lg_cmp v3 0) = 0
    · rw [if_pos c2] at h
      refine Rc.ifn (fun q => q c2) ?_
      obtain ⟨rfl, rfl⟩ := some_pair h
      exact Rc.ret 12 rfl rfl rfl trivial ⟨rfl, rfl⟩
    · rw [if_neg c2] at h
      refine Rc.ifp c2 ?_
      refine Rc.blk (c := [_]) (s2 := (if 0 ≤ (lg_cmp (σ.2 71 5) 0) then 84 else 76, [(0, .ref 71), (1, .int v1), (2, .ref 79), (3, .long v3), (5, .int v5)], [], σ)) 13 rfl rfl (conj_c (rfl) (trivial)) ?_
      by_cases c1 : 0 ≤ (lg_cmp (σ.2 71 5) 0)
      · rw [if_pos c1] at h
        refine Rc.ifp c1 ?_
        refine Rc.blk (c := [_]) (s2 := (88, [(0, .ref 71), (1, .int v1), (2, .ref 79), (3, .long v3), (5, .int v5)], [.long (labs v3)], σ)) 15 rfl rfl (conj_c (Nat.le_of_ble_eq_true rfl) (trivial)) ?_
        refine Rc.pick [0, 1, 2] (lv2 := [(0, .ref 71), (1, .int v1), (2, .ref 79)]) rfl ?_
        exact j_relation_71_79_b88_ok hd _ _ _ _ _ h
      · rw [if_neg c1] at h
        refine Rc.ifn c1 ?_
        refine Rc.blk (c := [_]) (s2 := (88, [(0, .ref 71), (1, .int v1), (2, .ref 79), (3, .long v3), (5, .int v5)], [.long (-(labs v3))], σ)) 14 rfl rfl (conj_c (Nat.le_of_ble_eq_true rfl) (trivial)) ?_
        refine Rc.pick [0, 1, 2] (lv2 := [(0, .ref 71), (1, .int v1), (2, .ref 79)]) rfl ?_
        exact j_relation_71_79_b88_ok hd _ _ _ _ _ h
  · rw [if_neg c9] at h
    refine Rc.ifn c9 ?_
    refine Rc.blk (c := [_]) (s2 := (28, [(0, .ref 71), (1, .int v1), (2, .ref 79), (3, .long v3), (5, .int v5)], [.int v5, .int (σ.1 71 4)], σ)) 4 rfl rfl (conj_c (rfl) (trivial)) ?_
    obtain ⟨r3, σ3, hc, h⟩ := bd_some h
    refine Rc.call (Ev.mono d) (v := some (.int r3)) (as := [.int (σ.1 71 4), .int v5]) (r := []) 5 rfl rfl rfl rfl (Nat.le_of_ble_eq_true rfl) (j_bit_s_ok (by omega) hc) ?_
    show Rc _ _ _ (31, [(0, .ref 71), (1, .int v1), (2, .ref 79), (3, .long v3), (5, .int v5)], [.int r3], σ3) _
    refine Rc.blk (c := []) (s2 := (if ¬ r3 = 1 then 54 else 35, [(0, .ref 71), (1, .int v1), (2, .ref 79), (3, .long v3), (5, .int v5)], [], σ3)) 6 rfl rfl (trivial) ?_
    by_cases c8 : r3 = 1
    · rw [if_pos c8] at h
      refine Rc.ifn (fun q => q c8) ?_
      obtain ⟨g4, h⟩ := gd_some h
      obtain ⟨g5, h⟩ := gd_some h
      obtain ⟨g6, h⟩ := gd_some h
      refine Rc.blk (c := [_, _, _, _, _]) (s2 := (50, [(0, .ref 71), (1, .int v1), (2, .ref 79), (3, .long v3), (5, .int v5)], [.long (σ3.2 (72 + 1 + (σ3.1 78 v5.toNatClampNeg).toNatClampNeg) v1.toNatClampNeg), .long v3], σ3)) 7 rfl rfl (conj_c (rfl) (conj_c (rfl) (conj_c (⟨rfl, inB_in g4⟩) (conj_c (⟨Or.inr rfl, inB_in g5⟩) (conj_c (arB_in g6) (trivial)))))) ?_
      obtain ⟨r7, σ7, hc, h⟩ := bd_some h
      refine Rc.call (Ev.mono d) (v := some (.long r7)) (as := [.long v3, .long (σ3.2 (72 + 1 + (σ3.1 78 v5.toNatClampNeg).toNatClampNeg) v1.toNatClampNeg)]) (r := []) 8 rfl rfl rfl rfl (Nat.le_of_ble_eq_true rfl) (j_greatestDivisor_s_ok (by omega) hc) ?_
      show Rc _ _ _ (53, [(0, .ref 71), (1, .int v1), (2, .ref 79), (3, .long v3), (5, .int v5)], [.long r7], σ7) _
      refine Rc.blk (c := []) (s2 := (54, [(3, .long r7), (0, .ref 71), (1, .int v1), (2, .ref 79), (5, .int v5)], [], σ7)) 9 rfl rfl (trivial) ?_
      refine Rc.pick [1, 2, 3, 0, 4] (lv2 := [(0, .ref 71), (1, .int v1), (2, .ref 79), (3, .long r7), (5, .int v5)]) rfl ?_
      exact j_relation_71_79_b54_ok hd hk13 _ _ _ _ _ _ h
    · rw [if_neg c8] at h
      refine Rc.ifp c8 ?_
      exact j_relation_71_79_b54_ok hd hk13 _ _ _ _ _ _ h
theorem j_relation_71_79_L13_ok {d : Nat} (hd : 1 ≤ d) : ∀ (n : Nat) (v1 : Int32) (v3 : Int64) (v5 : Int32) (σ : Sg) (r : Unit) (σ2 : Sg), j_relation_71_79_L13 n v1 v3 v5 σ = some (r, σ2) → Rc none (Ev MT CT d) sg7 (13, [(0, .ref 71), (1, .int v1), (2, .ref 79), (3, .long v3), (5, .int v5)], [], σ) (fun v s => v = none ∧ s = σ2)
  | 0, _, _, _, _, _, _, h => by cases h
  | n + 1, v1, v3, v5, σ, r, σ2, h => j_relation_71_79_H13_ok hd (j_relation_71_79_L13_ok hd n) v1 v3 v5 σ r σ2 h
theorem j_relation_71_79_ok {d : Nat} (hd : 2 ≤ d) {v1 : Int32} {σ : Sg} {r : Unit} {σ2 : Sg} (h : j_relation_71_79 v1 σ = some (r, σ2)) : Ev MT CT d 7 [.ref 71, .int v1, .ref 79] σ (fun v s => v = none ∧ s = σ2) := by
  obtain ⟨d, rfl⟩ : ∃ e, d = e + 1 := ⟨d - 1, by omega⟩
  refine ⟨Nat.le_of_ble_eq_true rfl, ?_⟩
  show Rc none (Ev MT CT d) sg7 (0, [(0, .ref 71), (1, .int v1), (2, .ref 79)], [], σ) _
  unfold j_relation_71_79 at h
  have hd : 1 ≤ d := by omega
  refine Rc.blk (c := []) (s2 := (2, [(0, .ref 71), (1, .int v1), (2, .ref 79)], [.int 0, .ref 79], σ)) 0 rfl rfl (trivial) ?_
  obtain ⟨r1, σ1, hc, h⟩ := bd_some h
  refine Rc.call (Ev.mono d) (v := none) (as := [.ref 79, .int 0]) (r := []) 1 rfl rfl rfl rfl (Nat.le_of_ble_eq_true rfl) (j_fillAII_79_ok (by omega) hc) ?_
  show Rc _ _ _ (5, [(0, .ref 71), (1, .int v1), (2, .ref 79)], [], σ1) _
  refine Rc.blk (c := [_]) (s2 := (13, [(5, .int 0), (3, .long (σ1.2 71 5)), (0, .ref 71), (1, .int v1), (2, .ref 79)], [], σ1)) 2 rfl rfl (conj_c (rfl) (trivial)) ?_
  refine Rc.pick [2, 3, 4, 1, 0] (lv2 := [(0, .ref 71), (1, .int v1), (2, .ref 79), (3, .long (σ1.2 71 5)), (5, .int 0)]) rfl ?_
  exact j_relation_71_79_L13_ok hd fu _ _ _ _ _ _ h
theorem j_sizesOfRests_70_b84_ok {d : Nat} (hd : 2 ≤ d) {k4 : Int64 → Int32 → Sg → Option (Int64 × Sg)} (hk4 : ∀ (v1 : Int64) (v3 : Int32) (σ : Sg) (r : Int64) (σ2 : Sg), k4 v1 v3 σ = some (r, σ2) → Rc none (Ev MT CT d) sg1 (4, [(0, .ref 70), (1, .long v1), (3, .int v3)], [], σ) (fun v s => v = some (.long r) ∧ s = σ2)) (v1 : Int64) (v3 : Int32) (σ : Sg) (r : Int64) (σ2 : Sg) (h : j_sizesOfRests_70_b84 k4 v1 v3 σ = some (r, σ2)) : Rc none (Ev MT CT d) sg1 (84, [(0, .ref 70), (1, .long v1), (3, .int v3)], [], σ) (fun v s => v = some (.long r) ∧ s = σ2) := by
  unfold j_sizesOfRests_70_b84 at h
  refine Rc.blk (c := []) (s2 := (4, [(3, .int (v3 + 1)), (0, .ref 70), (1, .long v1)], [], σ)) 10 rfl rfl (trivial) ?_
  refine Rc.pick [1, 2, 0] (lv2 := [(0, .ref 70), (1, .long v1), (3, .int (v3 + 1))]) rfl ?_
  exact hk4 _ _ _ _ _ h
theorem j_sizesOfRests_70_H55_ok {d : Nat} (hd : 2 ≤ d) {k4 : Int64 → Int32 → Sg → Option (Int64 × Sg)} {k55 : Int64 → Int32 → Int32 → Int32 → Sg → Option (Int64 × Sg)} (hk4 : ∀ (v1 : Int64) (v3 : Int32) (σ : Sg) (r : Int64) (σ2 : Sg), k4 v1 v3 σ = some (r, σ2) → Rc none (Ev MT CT d) sg1 (4, [(0, .ref 70), (1, .long v1), (3, .int v3)], [], σ) (fun v s => v = some (.long r) ∧ s = σ2)) (hk55 : ∀ (v1 : Int64) (v3 : Int32) (v5 : Int32) (v6 : Int32) (σ : Sg) (r : Int64) (σ2 : Sg), k55 v1 v3 v5 v6 σ = some (r, σ2) → Rc none (Ev MT CT d) sg1 (55, [(0, .ref 70), (1, .long v1), (3, .int v3), (4, .ref 79), (5, .int v5), (6, .int v6)], [], σ) (fun v s => v = some (.long r) ∧ s = σ2)) (v1 : Int64) (v3 : Int32) (v5 : Int32) (v6 : Int32) (σ : Sg) (r : Int64) (σ2 : Sg) (h : j_sizesOfRests_70_H55 k4 k55 v1 v3 v5 v6 σ = some (r, σ2)) : Rc none (Ev MT CT d) sg1 (55, [(0, .ref 70), (1, .long v1), (3, .int v3), (4, .ref 79), (5, .int v5), (6, .int v6)], [], σ) (fun v s => v = some (.long r) ∧ s = σ2) := by
  unfold j_sizesOfRests_70_H55 at h
  refine Rc.blk (c := []) (s2 := (if v5 ≤ v6 then 84 else 62, [(0, .ref 70), (1, .long v1), (3, .int v3), (4, .ref 79), (5, .int v5), (6, .int v6)], [], σ)) 8 rfl rfl (trivial) ?_
  by_cases c2 : v5 ≤ v6
  · rw [if_pos c2] at h
    refine Rc.ifp c2 ?_
    refine Rc.pick [0, 1, 2] (lv2 := [(0, .ref 70), (1, .long v1), (3, .int v3)]) rfl ?_
    exact j_sizesOfRests_70_b84_ok hd hk4 _ _ _ _ _ h
  · rw [if_neg c2] at h
    refine Rc.ifn c2 ?_
    obtain ⟨g1, h⟩ := gd_some h
    refine Rc.blk (c := [_, _]) (s2 := (55, [(6, .int (v6 + 1)), (1, .long (v1 + ((iabs (σ.1 79 v6.toNatClampNeg)).toInt64))), (7, .int (σ.1 79 v6.toNatClampNeg)), (0, .ref 70), (3, .int v3), (4, .ref 79), (5, .int v5)], [], σ)) 9 rfl rfl (conj_c (⟨rfl, inB_in g1⟩) (conj_c (Nat.le_of_ble_eq_true rfl) (trivial))) ?_
    refine Rc.pick [3, 1, 4, 5, 6, 0] (lv2 := [(0, .ref 70), (1, .long (v1 + ((iabs (σ.1 79 v6.toNatClampNeg)).toInt64))), (3, .int v3), (4, .ref 79), (5, .int v5), (6, .int (v6 + 1))]) rfl ?_
    exact hk55 _ _ _ _ _ _ _ h
theorem j_sizesOfRests_70_L55_ok {d : Nat} (hd : 2 ≤ d) {k4 : Int64 → Int32 → Sg → Option (Int64 × Sg)} (hk4 : ∀ (v1 : Int64) (v3 : Int32) (σ : Sg) (r : Int64) (σ2 : Sg), k4 v1 v3 σ = some (r, σ2) → Rc none (Ev MT CT d) sg1 (4, [(0, .ref 70), (1, .long v1), (3, .int v3)], [], σ) (fun v s => v = some (.long r) ∧ s = σ2)) : ∀ (n : Nat) (v1 : Int64) (v3 : Int32) (v5 : Int32) (v6 : Int32) (σ : Sg) (r : Int64) (σ2 : Sg), j_sizesOfRests_70_L55 k4 n v1 v3 v5 v6 σ = some (r, σ2) → Rc none (Ev MT CT d) sg1 (55, [(0, .ref 70), (1, .long v1), (3, .int v3), (4, .ref 79), (5, .int v5), (6, .int v6)], [], σ) (fun v s => v = some (.long r) ∧ s = σ2)
  | 0, _, _, _, _, _, _, _, h => by cases h
  | n + 1, v1, v3, v5, v6, σ, r, σ2, h => j_sizesOfRests_70_H55_ok hd hk4 (j_sizesOfRests_70_L55_ok hd hk4 n) v1 v3 v5 v6 σ r σ2 h
theorem j_sizesOfRests_70_H4_ok {d : Nat} (hd : 2 ≤ d) {k4 : Int64 → Int32 → Sg → Option (Int64 × Sg)} (hk4 : ∀ (v1 : Int64) (v3 : Int32) (σ : Sg) (r : Int64) (σ2 : Sg), k4 v1 v3 σ = some (r, σ2) → Rc none (Ev MT CT d) sg1 (4, [(0, .ref 70), (1, .long v1), (3, .int v3)], [], σ) (fun v s => v = some (.long r) ∧ s = σ2)) (v1 : Int64) (v3 : Int32) (σ : Sg) (r : Int64) (σ2 : Sg) (h : j_sizesOfRests_70_H4 k4 v1 v3 σ = some (r, σ2)) : Rc none (Ev MT CT d) sg1 (4, [(0, .ref 70), (1, .long v1), (3, .int v3)], [], σ) (fun v s => v = some (.long r) ∧ s = σ2) := by
  unfold j_sizesOfRests_70_H4 at h
  refine Rc.blk (c := [_, _]) (s2 := (if (σ.1 51 0) ≤ v3 then 90 else 15, [(0, .ref 70), (1, .long v1), (3, .int v3)], [], σ)) 1 rfl rfl (conj_c (rfl) (conj_c (rfl) (trivial))) ?_
  by_cases c4 : (σ.1 51 0) ≤ v3
  · rw [if_pos c4] at h
    refine Rc.ifp c4 ?_
    refine Rc.blk (c := []) (s2 := (91, [(0, .ref 70), (1, .long v1), (3, .int v3)], [.long v1], σ)) 11 rfl rfl (trivial) ?_
    obtain ⟨rfl, rfl⟩ := some_pair h
    exact Rc.ret 12 rfl rfl rfl trivial ⟨rfl, rfl⟩
  · rw [if_neg c4] at h
    refine Rc.ifn c4 ?_
    refine Rc.blk (c := [_, _]) (s2 := (23, [(0, .ref 70), (1, .long v1), (3, .int v3)], [.int v3, .int (σ.1 71 4)], σ)) 2 rfl rfl (conj_c (rfl) (conj_c (rfl) (trivial))) ?_
    obtain ⟨r1, σ1, hc, h⟩ := bd_some h
    refine Rc.call (Ev.mono d) (v := some (.int r1)) (as := [.int (σ.1 71 4), .int v3]) (r := []) 3 rfl rfl rfl rfl (Nat.le_of_ble_eq_true rfl) (j_bit_s_ok (by omega) hc) ?_
    show Rc _ _ _ (26, [(0, .ref 70), (1, .long v1), (3, .int v3)], [.int r1], σ1) _
    refine Rc.blk (c := []) (s2 := (if ¬ r1 = 0 then 84 else 29, [(0, .ref 70), (1, .long v1), (3, .int v3)], [], σ1)) 4 rfl rfl (trivial) ?_
    by_cases c3 : r1 = 0
    · rw [if_pos c3] at h
      refine Rc.ifn (fun q => q c3) ?_
      refine Rc.blk (c := [_, _]) (s2 := (38, [(0, .ref 70), (1, .long v1), (3, .int v3)], [.ref 79, .int v3, .ref 71], σ1)) 5 rfl rfl (conj_c (rfl) (conj_c (rfl) (trivial))) ?_
      obtain ⟨r2, σ2, hc, h⟩ := bd_some h
      refine Rc.call (Ev.mono d) (v := none) (as := [.ref 71, .int v3, .ref 79]) (r := []) 6 rfl rfl rfl rfl ⟨rfl, Nat.le_of_ble_eq_true rfl⟩ (j_relation_71_79_ok (by omega) hc) ?_
      show Rc _ _ _ (41, [(0, .ref 70), (1, .long v1), (3, .int v3)], [], σ2) _
      refine Rc.blk (c := [_, _]) (s2 := (55, [(6, .int 0), (5, .int 8), (4, .ref 79), (0, .ref 70), (1, .long v1), (3, .int v3)], [], σ2)) 7 rfl rfl (conj_c (rfl) (conj_c ((by decide)) (trivial))) ?_
      refine Rc.pick [3, 4, 5, 2, 1, 0] (lv2 := [(0, .ref 70), (1, .long v1), (3, .int v3), (4, .ref 79), (5, .int 8), (6, .int 0)]) rfl ?_
      exact j_sizesOfRests_70_L55_ok hd hk4 fu _ _ _ _ _ _ _ h
    · rw [if_neg c3] at h
      refine Rc.ifp c3 ?_
      exact j_sizesOfRests_70_b84_ok hd hk4 _ _ _ _ _ h
theorem j_sizesOfRests_70_L4_ok {d : Nat} (hd : 2 ≤ d) : ∀ (n : Nat) (v1 : Int64) (v3 : Int32) (σ : Sg) (r : Int64) (σ2 : Sg), j_sizesOfRests_70_L4 n v1 v3 σ = some (r, σ2) → Rc none (Ev MT CT d) sg1 (4, [(0, .ref 70), (1, .long v1), (3, .int v3)], [], σ) (fun v s => v = some (.long r) ∧ s = σ2)
  | 0, _, _, _, _, _, h => by cases h
  | n + 1, v1, v3, σ, r, σ2, h => j_sizesOfRests_70_H4_ok hd (j_sizesOfRests_70_L4_ok hd n) v1 v3 σ r σ2 h
theorem j_sizesOfRests_70_ok {d : Nat} (hd : 3 ≤ d) {σ : Sg} {r : Int64} {σ2 : Sg} (h : j_sizesOfRests_70 σ = some (r, σ2)) : Ev MT CT d 1 [.ref 70] σ (fun v s => v = some (.long r) ∧ s = σ2) := by
  obtain ⟨d, rfl⟩ : ∃ e, d = e + 1 := ⟨d - 1, by omega⟩
  refine ⟨Nat.le_of_ble_eq_true rfl, ?_⟩
  show Rc none (Ev MT CT d) sg1 (0, [(0, .ref 70)], [], σ) _
  unfold j_sizesOfRests_70 at h
  have hd : 2 ≤ d := by omega
  refine Rc.blk (c := []) (s2 := (4, [(3, .int 0), (1, .long 0), (0, .ref 70)], [], σ)) 0 rfl rfl (trivial) ?_
  refine Rc.pick [2, 1, 0] (lv2 := [(0, .ref 70), (1, .long 0), (3, .int 0)]) rfl ?_
  exact j_sizesOfRests_70_L4_ok hd fu _ _ _ _ _ h
theorem j_lookAtOne_70_b43_ok {d : Nat} (hd : 3 ≤ d) (σ : Sg) (r : Unit) (σ2 : Sg) (h : j_lookAtOne_70_b43 σ = some (r, σ2)) : Rc none (Ev MT CT d) sg3 (43, [(0, .ref 70)], [], σ) (fun v s => v = none ∧ s = σ2) := by
  unfold j_lookAtOne_70_b43 at h
  refine Rc.blk (c := [_, _, _]) (s2 := (53, [(0, .ref 70)], [], si σ 70 4 ((σ.1 70 4) + 1))) 7 rfl rfl (conj_c (rfl) (conj_c (rfl) (conj_c (rfl) (trivial)))) ?_
  obtain ⟨rfl, rfl⟩ := some_pair h
  exact Rc.ret 8 rfl rfl rfl trivial ⟨rfl, rfl⟩
theorem j_lookAtOne_70_b33_ok {d : Nat} (hd : 3 ≤ d) (v1 : Int32) (v2 : Int64) (σ : Sg) (r : Unit) (σ2 : Sg) (h : j_lookAtOne_70_b33 v1 v2 σ = some (r, σ2)) : Rc none (Ev MT CT d) sg3 (33, [(0, .ref 70), (1, .int v1), (2, .long v2)], [], σ) (fun v s => v = none ∧ s = σ2) := by
  unfold j_lookAtOne_70_b33 at h
  refine Rc.blk (c := [_, _]) (s2 := (43, [(0, .ref 70), (1, .int v1), (2, .long v2)], [], sl (si σ 70 7 v1) 70 8 v2)) 6 rfl rfl (conj_c (rfl) (conj_c (rfl) (trivial))) ?_
  refine Rc.pick [0] (lv2 := [(0, .ref 70)]) rfl ?_
  exact j_lookAtOne_70_b43_ok hd _ _ _ h
theorem j_lookAtOne_70_b17_ok {d : Nat} (hd : 3 ≤ d) (v1 : Int32) (v2 : Int64) (σ : Sg) (r : Unit) (σ2 : Sg) (h : j_lookAtOne_70_b17 v1 v2 σ = some (r, σ2)) : Rc none (Ev MT CT d) sg3 (17, [(0, .ref 70), (1, .int v1), (2, .long v2)], [], σ) (fun v s => v = none ∧ s = σ2) := by
  unfold j_lookAtOne_70_b17 at h
  refine Rc.blk (c := [_]) (s2 := (if (σ.1 70 4) = 0 then 33 else 24, [(0, .ref 70), (1, .int v1), (2, .long v2)], [], σ)) 4 rfl rfl (conj_c (rfl) (trivial)) ?_
  by_cases c2 : (σ.1 70 4) = 0
  · rw [if_pos c2] at h
    refine Rc.ifp c2 ?_
    exact j_lookAtOne_70_b33_ok hd _ _ _ _ _ h
  · rw [if_neg c2] at h
    refine Rc.ifn c2 ?_
    refine Rc.blk (c := [_]) (s2 := (if 0 ≤ (lg_cmp v2 (σ.2 70 8)) then 43 else 33, [(0, .ref 70), (1, .int v1), (2, .long v2)], [], σ)) 5 rfl rfl (conj_c (rfl) (trivial)) ?_
    by_cases c1 : 0 ≤ (lg_cmp v2 (σ.2 70 8))
    · rw [if_pos c1] at h
      refine Rc.ifp c1 ?_
      refine Rc.pick [0] (lv2 := [(0, .ref 70)]) rfl ?_
      exact j_lookAtOne_70_b43_ok hd _ _ _ h
    · rw [if_neg c1] at h
      refine Rc.ifn c1 ?_
      exact j_lookAtOne_70_b33_ok hd _ _ _ _ _ h
theorem j_lookAtOne_70_ok {d : Nat} (hd : 4 ≤ d) {v1 : Int32} {σ : Sg} {r : Unit} {σ2 : Sg} (h : j_lookAtOne_70 v1 σ = some (r, σ2)) : Ev MT CT d 3 [.ref 70, .int v1] σ (fun v s => v = none ∧ s = σ2) := by
  obtain ⟨d, rfl⟩ : ∃ e, d = e + 1 := ⟨d - 1, by omega⟩
  refine ⟨Nat.le_of_ble_eq_true rfl, ?_⟩
  show Rc none (Ev MT CT d) sg3 (0, [(0, .ref 70), (1, .int v1)], [], σ) _
  unfold j_lookAtOne_70 at h
  have hd : 3 ≤ d := by omega
  refine Rc.blk (c := []) (s2 := (1, [(0, .ref 70), (1, .int v1)], [.ref 70], σ)) 0 rfl rfl (trivial) ?_
  obtain ⟨r1, σ1, hc, h⟩ := bd_some h
  refine Rc.call (Ev.mono d) (v := some (.long r1)) (as := [.ref 70]) (r := []) 1 rfl rfl rfl rfl ⟨rfl, Nat.le_of_ble_eq_true rfl⟩ (j_sizesOfRests_70_ok (by omega) hc) ?_
  show Rc _ _ _ (4, [(0, .ref 70), (1, .int v1)], [.long r1], σ1) _
  refine Rc.blk (c := [_]) (s2 := (if ¬ (σ1.1 70 4) = 0 then 17 else 12, [(2, .long r1), (0, .ref 70), (1, .int v1)], [], σ1)) 2 rfl rfl (conj_c (rfl) (trivial)) ?_
  by_cases c2 : (σ1.1 70 4) = 0
  · rw [if_pos c2] at h
    refine Rc.ifn (fun q => q c2) ?_
    refine Rc.blk (c := [_]) (s2 := (17, [(2, .long r1), (0, .ref 70), (1, .int v1)], [], si σ1 70 6 v1)) 3 rfl rfl (conj_c (rfl) (trivial)) ?_
    refine Rc.pick [1, 2, 0] (lv2 := [(0, .ref 70), (1, .int v1), (2, .long r1)]) rfl ?_
    exact j_lookAtOne_70_b17_ok hd _ _ _ _ _ h
  · rw [if_neg c2] at h
    refine Rc.ifp c2 ?_
    refine Rc.pick [1, 2, 0] (lv2 := [(0, .ref 70), (1, .int v1), (2, .long r1)]) rfl ?_
    exact j_lookAtOne_70_b17_ok hd _ _ _ _ _ h
theorem j_lookAtAll_70_b91_ok {d : Nat} (hd : 4 ≤ d) {k38 : Int32 → Sg → Option (Unit × Sg)} (hk38 : ∀ (v1 : Int32) (σ : Sg) (r : Unit) (σ2 : Sg), k38 v1 σ = some (r, σ2) → Rc none (Ev MT CT d) sg2 (38, [(0, .ref 70), (1, .int v1)], [], σ) (fun v s => v = none ∧ s = σ2)) (v1 : Int32) (σ : Sg) (r : Unit) (σ2 : Sg) (h : j_lookAtAll_70_b91 k38 v1 σ = some (r, σ2)) : Rc none (Ev MT CT d) sg2 (91, [(0, .ref 70), (1, .int v1)], [], σ) (fun v s => v = none ∧ s = σ2) := by
  unfold j_lookAtAll_70_b91 at h
  refine Rc.blk (c := []) (s2 := (38, [(1, .int (v1 + 1)), (0, .ref 70)], [], σ)) 12 rfl rfl (trivial) ?_
  refine Rc.pick [1, 0] (lv2 := [(0, .ref 70), (1, .int (v1 + 1))]) rfl ?_
  exact hk38 _ _ _ _ h
theorem j_lookAtAll_70_H38_ok {d : Nat} (hd : 4 ≤ d) {k38 : Int32 → Sg → Option (Unit × Sg)} (hk38 : ∀ (v1 : Int32) (σ : Sg) (r : Unit) (σ2 : Sg), k38 v1 σ = some (r, σ2) → Rc none (Ev MT CT d) sg2 (38, [(0, .ref 70), (1, .int v1)], [], σ) (fun v s => v = none ∧ s = σ2)) (v1 : Int32) (σ : Sg) (r : Unit) (σ2 : Sg) (h : j_lookAtAll_70_H38 k38 v1 σ = some (r, σ2)) : Rc none (Ev MT CT d) sg2 (38, [(0, .ref 70), (1, .int v1)], [], σ) (fun v s => v = none ∧ s = σ2) := by
  unfold j_lookAtAll_70_H38 at h
  refine Rc.blk (c := [_, _]) (s2 := (if ((1 : Int32) <<< ((σ.1 51 0) &&& 31)) ≤ v1 then 97 else 51, [(0, .ref 70), (1, .int v1)], [], σ)) 3 rfl rfl (conj_c (rfl) (conj_c (rfl) (trivial))) ?_
  by_cases c6 : ((1 : Int32) <<< ((σ.1 51 0) &&& 31)) ≤ v1
  · rw [if_pos c6] at h
    refine Rc.ifp c6 ?_
    obtain ⟨rfl, rfl⟩ := some_pair h
    exact Rc.ret 13 rfl rfl rfl trivial ⟨rfl, rfl⟩
  · rw [if_neg c6] at h
    refine Rc.ifn c6 ?_
    refine Rc.blk (c := []) (s2 := (52, [(0, .ref 70), (1, .int v1)], [.int v1], σ)) 4 rfl rfl (trivial) ?_
    obtain ⟨r1, σ1, hc, h⟩ := bd_some h
    refine Rc.call (Ev.mono d) (v := some (.int r1)) (as := [.int v1]) (r := []) 5 rfl rfl rfl rfl (Nat.le_of_ble_eq_true rfl) (j_bitCount_s_ok (by omega) hc) ?_
    show Rc _ _ _ (55, [(0, .ref 70), (1, .int v1)], [.int r1], σ1) _
    refine Rc.blk (c := [_, _, _]) (s2 := (if ¬ r1 = (σ1.1 62 3) then 91 else 68, [(0, .ref 70), (1, .int v1)], [], σ1)) 6 rfl rfl (conj_c (rfl) (conj_c (rfl) (conj_c (rfl) (trivial)))) ?_
    by_cases c5 : r1 = (σ1.1 62 3)
    · rw [if_pos c5] at h
      refine Rc.ifn (fun q => q c5) ?_
      refine Rc.blk (c := [_, _, _]) (s2 := (80, [(0, .ref 70), (1, .int v1)], [.int v1, .ref 70], si σ1 70 5 ((σ1.1 70 5) + 1))) 7 rfl rfl (conj_c (rfl) (conj_c (rfl) (conj_c (rfl) (trivial)))) ?_
      obtain ⟨r2, σ2, hc, h⟩ := bd_some h
      refine Rc.call (Ev.mono d) (v := some (.int r2)) (as := [.ref 70, .int v1]) (r := []) 8 rfl rfl rfl rfl ⟨rfl, Nat.le_of_ble_eq_true rfl⟩ (j_choose_70_ok (by omega) hc) ?_
      show Rc _ _ _ (83, [(0, .ref 70), (1, .int v1)], [.int r2], σ2) _
      refine Rc.blk (c := []) (s2 := (if r2 = 0 then 91 else 86, [(0, .ref 70), (1, .int v1)], [], σ2)) 9 rfl rfl (trivial) ?_
      by_cases c4 : r2 = 0
      · rw [if_pos c4] at h
        refine Rc.ifp c4 ?_
        exact j_lookAtAll_70_b91_ok hd hk38 _ _ _ _ h
      · rw [if_neg c4] at h
        refine Rc.ifn c4 ?_
        refine Rc.blk (c := []) (s2 := (88, [(0, .ref 70), (1, .int v1)], [.int v1, .ref 70], σ2)) 10 rfl rfl (trivial) ?_
        obtain ⟨r3, σ3, hc, h⟩ := bd_some h
        refine Rc.call (Ev.mono d) (v := none) (as := [.ref 70, .int v1]) (r := []) 11 rfl rfl rfl rfl ⟨rfl, Nat.le_of_ble_eq_true rfl⟩ (j_lookAtOne_70_ok (by omega) hc) ?_
        show Rc _ _ _ (91, [(0, .ref 70), (1, .int v1)], [], σ3) _
        exact j_lookAtAll_70_b91_ok hd hk38 _ _ _ _ h
    · rw [if_neg c5] at h
      refine Rc.ifp c5 ?_
      exact j_lookAtAll_70_b91_ok hd hk38 _ _ _ _ h
theorem j_lookAtAll_70_L38_ok {d : Nat} (hd : 4 ≤ d) : ∀ (n : Nat) (v1 : Int32) (σ : Sg) (r : Unit) (σ2 : Sg), j_lookAtAll_70_L38 n v1 σ = some (r, σ2) → Rc none (Ev MT CT d) sg2 (38, [(0, .ref 70), (1, .int v1)], [], σ) (fun v s => v = none ∧ s = σ2)
  | 0, _, _, _, _, h => by cases h
  | n + 1, v1, σ, r, σ2, h => j_lookAtAll_70_H38_ok hd (j_lookAtAll_70_L38_ok hd n) v1 σ r σ2 h
theorem j_lookAtAll_70_ok {d : Nat} (hd : 5 ≤ d) {σ : Sg} {r : Unit} {σ2 : Sg} (h : j_lookAtAll_70 σ = some (r, σ2)) : Ev MT CT d 2 [.ref 70] σ (fun v s => v = none ∧ s = σ2) := by
  obtain ⟨d, rfl⟩ : ∃ e, d = e + 1 := ⟨d - 1, by omega⟩
  refine ⟨Nat.le_of_ble_eq_true rfl, ?_⟩
  show Rc none (Ev MT CT d) sg2 (0, [(0, .ref 70)], [], σ) _
  unfold j_lookAtAll_70 at h
  have hd : 4 ≤ d := by omega
  refine Rc.blk (c := [_, _, _]) (s2 := (if ¬ (σ.1 70 3) = (σ.1 51 1) then 15 else 14, [(0, .ref 70)], [], σ)) 0 rfl rfl (conj_c (rfl) (conj_c (rfl) (conj_c (rfl) (trivial)))) ?_
  by_cases c1 : (σ.1 70 3) = (σ.1 51 1)
  · rw [if_pos c1] at h
    refine Rc.ifn (fun q => q c1) ?_
    obtain ⟨rfl, rfl⟩ := some_pair h
    exact Rc.ret 1 rfl rfl rfl trivial ⟨rfl, rfl⟩
  · rw [if_neg c1] at h
    refine Rc.ifp c1 ?_
    refine Rc.blk (c := [_, _, _, _, _]) (s2 := (38, [(1, .int 0), (0, .ref 70)], [], si (si (si σ 70 3 (σ.1 51 1)) 70 4 0) 70 5 0)) 2 rfl rfl (conj_c (rfl) (conj_c (rfl) (conj_c (rfl) (conj_c (rfl) (conj_c (rfl) (trivial)))))) ?_
    refine Rc.pick [1, 0] (lv2 := [(0, .ref 70), (1, .int 0)]) rfl ?_
    exact j_lookAtAll_70_L38_ok hd fu _ _ _ _ h
theorem j_sets_0_b9_ok {d : Nat} (hd : 5 ≤ d) (σ : Sg) (r : Int32) (σ2 : Sg) (h : j_sets_0_b9 σ = some (r, σ2)) : Rc none (Ev MT CT d) sg71 (9, [(0, .ref 0)], [], σ) (fun v s => v = some (.int r) ∧ s = σ2) := by
  unfold j_sets_0_b9 at h
  refine Rc.blk (c := []) (s2 := (12, [(0, .ref 0)], [.int (-2), .ref 0], σ)) 2 rfl rfl (trivial) ?_
  obtain ⟨r1, σ1, hc, h⟩ := bd_some h
  refine Rc.call (Ev.mono d) (v := some (.int r1)) (as := [.ref 0, .int (-2)]) (r := []) 3 rfl rfl rfl rfl ⟨rfl, Nat.le_of_ble_eq_true rfl⟩ (j_refused_0_ok (by omega) hc) ?_
  show Rc _ _ _ (15, [(0, .ref 0)], [.int r1], σ1) _
  obtain ⟨rfl, rfl⟩ := some_pair h
  exact Rc.ret 4 rfl rfl rfl trivial ⟨rfl, rfl⟩
theorem j_sets_0_b57_ok {d : Nat} (hd : 5 ≤ d) (s0 : Int32) (σ : Sg) (r : Int32) (σ2 : Sg) (h : j_sets_0_b57 s0 σ = some (r, σ2)) : Rc none (Ev MT CT d) sg71 (57, [], [.int s0], σ) (fun v s => v = some (.int r) ∧ s = σ2) := by
  unfold j_sets_0_b57 at h
  obtain ⟨rfl, rfl⟩ := some_pair h
  exact Rc.ret 13 rfl rfl rfl trivial ⟨rfl, rfl⟩
theorem j_sets_0_ok {d : Nat} (hd : 6 ≤ d) {v1 : Int32} {σ : Sg} {r : Int32} {σ2 : Sg} (h : j_sets_0 v1 σ = some (r, σ2)) : Ev MT CT d 71 [.ref 0, .int v1] σ (fun v s => v = some (.int r) ∧ s = σ2) := by
  obtain ⟨d, rfl⟩ : ∃ e, d = e + 1 := ⟨d - 1, by omega⟩
  refine ⟨Nat.le_of_ble_eq_true rfl, ?_⟩
  show Rc none (Ev MT CT d) sg71 (0, [(0, .ref 0), (1, .int v1)], [], σ) _
  unfold j_sets_0 at h
  have hd : 5 ≤ d := by omega
  refine Rc.blk (c := []) (s2 := (if v1 < 0 then 9 else 4, [(0, .ref 0), (1, .int v1)], [], σ)) 0 rfl rfl (trivial) ?_
  by_cases c5 : v1 < 0
  · rw [if_pos c5] at h
    refine Rc.ifp c5 ?_
    refine Rc.pick [0] (lv2 := [(0, .ref 0)]) rfl ?_
    exact j_sets_0_b9_ok hd _ _ _ h
  · rw [if_neg c5] at h
    refine Rc.ifn c5 ?_
    refine Rc.blk (c := []) (s2 := (if v1 ≤ 2 then 16 else 9, [(0, .ref 0), (1, .int v1)], [], σ)) 1 rfl rfl (trivial) ?_
    by_cases c4 : v1 ≤ 2
    · rw [if_pos c4] at h
      refine Rc.ifp c4 ?_
      refine Rc.blk (c := [_]) (s2 := (20, [(0, .ref 0), (1, .int v1)], [.ref 70], σ)) 5 rfl rfl (conj_c (rfl) (trivial)) ?_
      obtain ⟨r1, σ1, hc, h⟩ := bd_some h
      refine Rc.call (Ev.mono d) (v := none) (as := [.ref 70]) (r := []) 6 rfl rfl rfl rfl ⟨rfl, Nat.le_of_ble_eq_true rfl⟩ (j_lookAtAll_70_ok (by omega) hc) ?_
      show Rc _ _ _ (23, [(0, .ref 0), (1, .int v1)], [], σ1) _
      refine Rc.blk (c := []) (s2 := (if ¬ v1 = 0 then 35 else 27, [(0, .ref 0), (1, .int v1)], [], σ1)) 7 rfl rfl (trivial) ?_
      by_cases c3 : v1 = 0
      · rw [if_pos c3] at h
        refine Rc.ifn (fun q => q c3) ?_
        refine Rc.blk (c := [_, _]) (s2 := (34, [(0, .ref 0), (1, .int v1)], [.int (σ1.1 70 4)], σ1)) 8 rfl rfl (conj_c (rfl) (conj_c (rfl) (trivial))) ?_
        obtain ⟨rfl, rfl⟩ := some_pair h
        exact Rc.ret 9 rfl rfl rfl trivial ⟨rfl, rfl⟩
      · rw [if_neg c3] at h
        refine Rc.ifp c3 ?_
        refine Rc.blk (c := []) (s2 := (if ¬ v1 = 1 then 50 else 40, [(0, .ref 0), (1, .int v1)], [], σ1)) 10 rfl rfl (trivial) ?_
        by_cases c2 : v1 = 1
        · rw [if_pos c2] at h
          refine Rc.ifn (fun q => q c2) ?_
          refine Rc.blk (c := [_, _]) (s2 := (57, [(0, .ref 0), (1, .int v1)], [.int (σ1.1 70 6)], σ1)) 11 rfl rfl (conj_c (rfl) (conj_c (rfl) (trivial))) ?_
          refine Rc.pick [] (lv2 := []) rfl ?_
          exact j_sets_0_b57_ok hd _ _ _ _ h
        · rw [if_neg c2] at h
          refine Rc.ifp c2 ?_
          refine Rc.blk (c := [_, _]) (s2 := (57, [(0, .ref 0), (1, .int v1)], [.int (σ1.1 70 7)], σ1)) 12 rfl rfl (conj_c (rfl) (conj_c (rfl) (trivial))) ?_
          refine Rc.pick [] (lv2 := []) rfl ?_
          exact j_sets_0_b57_ok hd _ _ _ _ h
    · rw [if_neg c4] at h
      refine Rc.ifn c4 ?_
      refine Rc.pick [0] (lv2 := [(0, .ref 0)]) rfl ?_
      exact j_sets_0_b9_ok hd _ _ _ h
theorem j_sizes_0_ok {d : Nat} (hd : 4 ≤ d) {v1 : Int32} {σ : Sg} {r : Int64} {σ2 : Sg} (h : j_sizes_0 v1 σ = some (r, σ2)) : Ev MT CT d 72 [.ref 0, .int v1] σ (fun v s => v = some (.long r) ∧ s = σ2) := by
  obtain ⟨d, rfl⟩ : ∃ e, d = e + 1 := ⟨d - 1, by omega⟩
  refine ⟨Nat.le_of_ble_eq_true rfl, ?_⟩
  show Rc none (Ev MT CT d) sg72 (0, [(0, .ref 0), (1, .int v1)], [], σ) _
  unfold j_sizes_0 at h
  have hd : 3 ≤ d := by omega
  refine Rc.blk (c := []) (s2 := (2, [(0, .ref 0), (1, .int v1)], [.int v1, .ref 0], σ)) 0 rfl rfl (trivial) ?_
  obtain ⟨r1, σ1, hc, h⟩ := bd_some h
  refine Rc.call (Ev.mono d) (v := some (.int r1)) (as := [.ref 0, .int v1]) (r := []) 1 rfl rfl rfl rfl ⟨rfl, Nat.le_of_ble_eq_true rfl⟩ (j_isSet_0_ok (by omega) hc) ?_
  show Rc _ _ _ (5, [(0, .ref 0), (1, .int v1)], [.int r1], σ1) _
  refine Rc.blk (c := []) (s2 := (if ¬ r1 = 0 then 14 else 8, [(0, .ref 0), (1, .int v1)], [], σ1)) 2 rfl rfl (trivial) ?_
  by_cases c7 : r1 = 0
  · rw [if_pos c7] at h
    refine Rc.ifn (fun q => q c7) ?_
    refine Rc.blk (c := []) (s2 := (10, [(0, .ref 0), (1, .int v1)], [.int (-1), .ref 0], σ1)) 3 rfl rfl (trivial) ?_
    obtain ⟨r6, σ6, hc, h⟩ := bd_some h
    refine Rc.call (Ev.mono d) (v := some (.long r6)) (as := [.ref 0, .int (-1)]) (r := []) 4 rfl rfl rfl rfl ⟨rfl, Nat.le_of_ble_eq_true rfl⟩ (j_refusedFarLong_0_ok (by omega) hc) ?_
    show Rc _ _ _ (13, [(0, .ref 0), (1, .int v1)], [.long r6], σ6) _
    obtain ⟨rfl, rfl⟩ := some_pair h
    exact Rc.ret 5 rfl rfl rfl trivial ⟨rfl, rfl⟩
  · rw [if_neg c7] at h
    refine Rc.ifp c7 ?_
    refine Rc.blk (c := [_]) (s2 := (19, [(0, .ref 0), (1, .int v1)], [.int v1, .ref 70], σ1)) 6 rfl rfl (conj_c (rfl) (trivial)) ?_
    obtain ⟨r2, σ2, hc, h⟩ := bd_some h
    refine Rc.call (Ev.mono d) (v := some (.int r2)) (as := [.ref 70, .int v1]) (r := []) 7 rfl rfl rfl rfl ⟨rfl, Nat.le_of_ble_eq_true rfl⟩ (j_choose_70_ok (by omega) hc) ?_
    show Rc _ _ _ (22, [(0, .ref 0), (1, .int v1)], [.int r2], σ2) _
    refine Rc.blk (c := []) (s2 := (if ¬ r2 = 0 then 32 else 25, [(0, .ref 0), (1, .int v1)], [], σ2)) 8 rfl rfl (trivial) ?_
    by_cases c5 : r2 = 0
    · rw [if_pos c5] at h
      refine Rc.ifn (fun q => q c5) ?_
      refine Rc.blk (c := []) (s2 := (28, [(0, .ref 0), (1, .int v1)], [.int (-3), .ref 0], σ2)) 9 rfl rfl (trivial) ?_
      obtain ⟨r4, σ4, hc, h⟩ := bd_some h
      refine Rc.call (Ev.mono d) (v := some (.long r4)) (as := [.ref 0, .int (-3)]) (r := []) 10 rfl rfl rfl rfl ⟨rfl, Nat.le_of_ble_eq_true rfl⟩ (j_refusedFarLong_0_ok (by omega) hc) ?_
      show Rc _ _ _ (31, [(0, .ref 0), (1, .int v1)], [.long r4], σ4) _
      obtain ⟨rfl, rfl⟩ := some_pair h
      exact Rc.ret 11 rfl rfl rfl trivial ⟨rfl, rfl⟩
    · rw [if_neg c5] at h
      refine Rc.ifp c5 ?_
      refine Rc.blk (c := [_]) (s2 := (36, [(0, .ref 0), (1, .int v1)], [.ref 70], σ2)) 12 rfl rfl (conj_c (rfl) (trivial)) ?_
      obtain ⟨r3, σ3, hc, h⟩ := bd_some h
      refine Rc.call (Ev.mono d) (v := some (.long r3)) (as := [.ref 70]) (r := []) 13 rfl rfl rfl rfl ⟨rfl, Nat.le_of_ble_eq_true rfl⟩ (j_sizesOfRests_70_ok (by omega) hc) ?_
      show Rc _ _ _ (39, [(0, .ref 0), (1, .int v1)], [.long r3], σ3) _
      obtain ⟨rfl, rfl⟩ := some_pair h
      exact Rc.ret 14 rfl rfl rfl trivial ⟨rfl, rfl⟩
theorem j_odds_0_ok {d : Nat} (hd : 6 ≤ d) {v1 : Int32} {σ : Sg} {r : Int64} {σ2 : Sg} (h : j_odds_0 v1 σ = some (r, σ2)) : Ev MT CT d 73 [.ref 0, .int v1] σ (fun v s => v = some (.long r) ∧ s = σ2) := by
  obtain ⟨d, rfl⟩ : ∃ e, d = e + 1 := ⟨d - 1, by omega⟩
  refine ⟨Nat.le_of_ble_eq_true rfl, ?_⟩
  show Rc none (Ev MT CT d) sg73 (0, [(0, .ref 0), (1, .int v1)], [], σ) _
  unfold j_odds_0 at h
  have hd : 5 ≤ d := by omega
  refine Rc.blk (c := []) (s2 := (1, [(0, .ref 0), (1, .int v1)], [.int v1], σ)) 0 rfl rfl (trivial) ?_
  obtain ⟨r1, σ1, hc, h⟩ := bd_some h
  refine Rc.call (Ev.mono d) (v := some (.int r1)) (as := [.int v1]) (r := []) 1 rfl rfl rfl rfl (Nat.le_of_ble_eq_true rfl) (j_isPart_s_ok (by omega) hc) ?_
  show Rc _ _ _ (4, [(0, .ref 0), (1, .int v1)], [.int r1], σ1) _
  refine Rc.blk (c := []) (s2 := (if ¬ r1 = 0 then 14 else 7, [(0, .ref 0), (1, .int v1)], [], σ1)) 2 rfl rfl (trivial) ?_
  by_cases c5 : r1 = 0
  · rw [if_pos c5] at h
    refine Rc.ifn (fun q => q c5) ?_
    refine Rc.blk (c := []) (s2 := (10, [(0, .ref 0), (1, .int v1)], [.int (-2), .ref 0], σ1)) 3 rfl rfl (trivial) ?_
    obtain ⟨r4, σ4, hc, h⟩ := bd_some h
    refine Rc.call (Ev.mono d) (v := some (.long r4)) (as := [.ref 0, .int (-2)]) (r := []) 4 rfl rfl rfl rfl ⟨rfl, Nat.le_of_ble_eq_true rfl⟩ (j_refusedFarLong_0_ok (by omega) hc) ?_
    show Rc _ _ _ (13, [(0, .ref 0), (1, .int v1)], [.long r4], σ4) _
    obtain ⟨rfl, rfl⟩ := some_pair h
    exact Rc.ret 5 rfl rfl rfl trivial ⟨rfl, rfl⟩
  · rw [if_neg c5] at h
    refine Rc.ifp c5 ?_
    refine Rc.blk (c := [_]) (s2 := (18, [(0, .ref 0), (1, .int v1)], [.ref 70], σ1)) 6 rfl rfl (conj_c (rfl) (trivial)) ?_
    obtain ⟨r2, σ2, hc, h⟩ := bd_some h
    refine Rc.call (Ev.mono d) (v := none) (as := [.ref 70]) (r := []) 7 rfl rfl rfl rfl ⟨rfl, Nat.le_of_ble_eq_true rfl⟩ (j_lookAtAll_70_ok (by omega) hc) ?_
    show Rc _ _ _ (21, [(0, .ref 0), (1, .int v1)], [], σ2) _
    refine Rc.blk (c := [_, _, _, _]) (s2 := (38, [(0, .ref 0), (1, .int v1)], [.int v1, .long ((σ2.1 70 5).toInt64), .long ((σ2.1 70 4).toInt64)], σ2)) 8 rfl rfl (conj_c (rfl) (conj_c (rfl) (conj_c (rfl) (conj_c (rfl) (trivial))))) ?_
    obtain ⟨r3, σ3, hc, h⟩ := bd_some h
    refine Rc.call (Ev.mono d) (v := some (.long r3)) (as := [.long ((σ2.1 70 4).toInt64), .long ((σ2.1 70 5).toInt64), .int v1]) (r := []) 9 rfl rfl rfl rfl (Nat.le_of_ble_eq_true rfl) (j_partOf_s_ok (by omega) hc) ?_
    show Rc _ _ _ (41, [(0, .ref 0), (1, .int v1)], [.long r3], σ3) _
    obtain ⟨rfl, rfl⟩ := some_pair h
    exact Rc.ret 10 rfl rfl rfl trivial ⟨rfl, rfl⟩
theorem j_scale_0_b27_ok {d : Nat} (hd : 1 ≤ d) (σ : Sg) (r : Int32) (σ2 : Sg) (h : j_scale_0_b27 σ = some (r, σ2)) : Rc none (Ev MT CT d) sg74 (27, [(0, .ref 0)], [], σ) (fun v s => v = some (.int r) ∧ s = σ2) := by
  unfold j_scale_0_b27 at h
  refine Rc.blk (c := []) (s2 := (30, [(0, .ref 0)], [.int (-4), .ref 0], σ)) 9 rfl rfl (trivial) ?_
  obtain ⟨r1, σ1, hc, h⟩ := bd_some h
  refine Rc.call (Ev.mono d) (v := some (.int r1)) (as := [.ref 0, .int (-4)]) (r := []) 10 rfl rfl rfl rfl ⟨rfl, Nat.le_of_ble_eq_true rfl⟩ (j_refused_0_ok (by omega) hc) ?_
  show Rc _ _ _ (33, [(0, .ref 0)], [.int r1], σ1) _
  obtain ⟨rfl, rfl⟩ := some_pair h
  exact Rc.ret 11 rfl rfl rfl trivial ⟨rfl, rfl⟩
theorem j_scale_0_b50_ok {d : Nat} (hd : 1 ≤ d) (σ : Sg) (r : Int32) (σ2 : Sg) (h : j_scale_0_b50 σ = some (r, σ2)) : Rc none (Ev MT CT d) sg74 (50, [(0, .ref 0)], [], σ) (fun v s => v = some (.int r) ∧ s = σ2) := by
  unfold j_scale_0_b50 at h
  refine Rc.blk (c := []) (s2 := (53, [(0, .ref 0)], [.int (-6), .ref 0], σ)) 15 rfl rfl (trivial) ?_
  obtain ⟨r1, σ1, hc, h⟩ := bd_some h
  refine Rc.call (Ev.mono d) (v := some (.int r1)) (as := [.ref 0, .int (-6)]) (r := []) 16 rfl rfl rfl rfl ⟨rfl, Nat.le_of_ble_eq_true rfl⟩ (j_refused_0_ok (by omega) hc) ?_
  show Rc _ _ _ (56, [(0, .ref 0)], [.int r1], σ1) _
  obtain ⟨rfl, rfl⟩ := some_pair h
  exact Rc.ret 17 rfl rfl rfl trivial ⟨rfl, rfl⟩
theorem j_scale_0_b111_ok {d : Nat} (hd : 1 ≤ d) (s1 : Int32) (s2 : Int32) (σ : Sg) (r : Int32) (σ2 : Sg) (h : j_scale_0_b111 s1 s2 σ = some (r, σ2)) : Rc none (Ev MT CT d) sg74 (111, [], [.int s2, .int s1, .ref 13], σ) (fun v s => v = some (.int r) ∧ s = σ2) := by
  unfold j_scale_0_b111 at h
  obtain ⟨g1, h⟩ := gd_some h
  refine Rc.blk (c := [_]) (s2 := (113, [], [.int 1], si σ 13 s1.toNatClampNeg s2)) 23 rfl rfl (conj_c (⟨rfl, inB_in g1⟩) (trivial)) ?_
  obtain ⟨rfl, rfl⟩ := some_pair h
  exact Rc.ret 24 rfl rfl rfl trivial ⟨rfl, rfl⟩
theorem j_scale_0_b57_ok {d : Nat} (hd : 1 ≤ d) (v1 : Int32) (v2 : Int32) (v3 : Int32) (σ : Sg) (r : Int32) (σ2 : Sg) (h : j_scale_0_b57 v1 v2 v3 σ = some (r, σ2)) : Rc none (Ev MT CT d) sg74 (57, [(0, .ref 0), (1, .int v1), (2, .int v2), (3, .int v3)], [], σ) (fun v s => v = some (.int r) ∧ s = σ2) := by
  unfold j_scale_0_b57 at h
  obtain ⟨g1, h⟩ := gd_some h
  obtain ⟨g2, h⟩ := gd_some h
  refine Rc.blk (c := [_, _, _, _, _, _, _]) (s2 := (81, [(0, .ref 0), (1, .int v1), (2, .int v2), (3, .int v3)], [.int (σ.1 13 v1.toNatClampNeg), .int (σ.1 12 v1.toNatClampNeg), .int v1, .int 2, .ref 29], σ)) 18 rfl rfl (conj_c (rfl) (conj_c (rfl) (conj_c (rfl) (conj_c (⟨rfl, inB_in g1⟩) (conj_c (rfl) (conj_c (rfl) (conj_c (⟨rfl, inB_in g2⟩) (trivial)))))))) ?_
  obtain ⟨r3, σ3, hc, h⟩ := bd_some h
  refine Rc.call (Ev.mono d) (v := none) (as := [.ref 29, .int 2, .int v1, .int (σ.1 12 v1.toNatClampNeg), .int (σ.1 13 v1.toNatClampNeg)]) (r := []) 19 rfl rfl rfl rfl ⟨rfl, Nat.le_of_ble_eq_true rfl⟩ (j_note_29_ok (by omega) hc) ?_
  show Rc _ _ _ (84, [(0, .ref 0), (1, .int v1), (2, .int v2), (3, .int v3)], [], σ3) _
  obtain ⟨g4, h⟩ := gd_some h
  refine Rc.blk (c := [_, _, _, _, _]) (s2 := (if ¬ v2 = 0 then 110 else 106, [(0, .ref 0), (1, .int v1), (2, .int v2), (3, .int v3)], [.int v1, .ref 13], si σ3 12 v1.toNatClampNeg v2)) 20 rfl rfl (conj_c (rfl) (conj_c (rfl) (conj_c (⟨rfl, inB_in g4⟩) (conj_c (rfl) (conj_c (rfl) (trivial)))))) ?_
  by_cases c5 : v2 = 0
  · rw [if_pos c5] at h
    refine Rc.ifn (fun q => q c5) ?_
    refine Rc.blk (c := []) (s2 := (111, [(0, .ref 0), (1, .int v1), (2, .int v2), (3, .int v3)], [.int 1, .int v1, .ref 13], si σ3 12 v1.toNatClampNeg v2)) 21 rfl rfl (trivial) ?_
    refine Rc.pick [] (lv2 := []) rfl ?_
    exact j_scale_0_b111_ok hd _ _ _ _ _ h
  · rw [if_neg c5] at h
    refine Rc.ifp c5 ?_
    refine Rc.blk (c := []) (s2 := (111, [(0, .ref 0), (1, .int v1), (2, .int v2), (3, .int v3)], [.int v3, .int v1, .ref 13], si σ3 12 v1.toNatClampNeg v2)) 22 rfl rfl (trivial) ?_
    refine Rc.pick [] (lv2 := []) rfl ?_
    exact j_scale_0_b111_ok hd _ _ _ _ _ h
theorem j_scale_0_b34_ok {d : Nat} (hd : 1 ≤ d) (v1 : Int32) (v2 : Int32) (v3 : Int32) (σ : Sg) (r : Int32) (σ2 : Sg) (h : j_scale_0_b34 v1 v2 v3 σ = some (r, σ2)) : Rc none (Ev MT CT d) sg74 (34, [(0, .ref 0), (1, .int v1), (2, .int v2), (3, .int v3)], [], σ) (fun v s => v = some (.int r) ∧ s = σ2) := by
  unfold j_scale_0_b34 at h
  refine Rc.blk (c := []) (s2 := (if 99 < v2 then 50 else 40, [(0, .ref 0), (1, .int v1), (2, .int v2), (3, .int v3)], [], σ)) 12 rfl rfl (trivial) ?_
  by_cases c3 : 99 < v2
  · rw [if_pos c3] at h
    refine Rc.ifp c3 ?_
    refine Rc.pick [0] (lv2 := [(0, .ref 0)]) rfl ?_
    exact j_scale_0_b50_ok hd _ _ _ h
  · rw [if_neg c3] at h
    refine Rc.ifn c3 ?_
    refine Rc.blk (c := []) (s2 := (if v2 ≤ 0 then 57 else 44, [(0, .ref 0), (1, .int v1), (2, .int v2), (3, .int v3)], [], σ)) 13 rfl rfl (trivial) ?_
    by_cases c2 : v2 ≤ 0
    · rw [if_pos c2] at h
      refine Rc.ifp c2 ?_
      exact j_scale_0_b57_ok hd _ _ _ _ _ _ h
    · rw [if_neg c2] at h
      refine Rc.ifn c2 ?_
      refine Rc.blk (c := []) (s2 := (if v3 ≤ 99 then 57 else 50, [(0, .ref 0), (1, .int v1), (2, .int v2), (3, .int v3)], [], σ)) 14 rfl rfl (trivial) ?_
      by_cases c1 : v3 ≤ 99
      · rw [if_pos c1] at h
        refine Rc.ifp c1 ?_
        exact j_scale_0_b57_ok hd _ _ _ _ _ _ h
      · rw [if_neg c1] at h
        refine Rc.ifn c1 ?_
        refine Rc.pick [0] (lv2 := [(0, .ref 0)]) rfl ?_
        exact j_scale_0_b50_ok hd _ _ _ h
theorem j_scale_0_ok {d : Nat} (hd : 2 ≤ d) {v1 : Int32} {v2 : Int32} {v3 : Int32} {σ : Sg} {r : Int32} {σ2 : Sg} (h : j_scale_0 v1 v2 v3 σ = some (r, σ2)) : Ev MT CT d 74 [.ref 0, .int v1, .int v2, .int v3] σ (fun v s => v = some (.int r) ∧ s = σ2) := by
  obtain ⟨d, rfl⟩ : ∃ e, d = e + 1 := ⟨d - 1, by omega⟩
  refine ⟨Nat.le_of_ble_eq_true rfl, ?_⟩
  show Rc none (Ev MT CT d) sg74 (0, [(0, .ref 0), (1, .int v1), (2, .int v2), (3, .int v3)], [], σ) _
  unfold j_scale_0 at h
  have hd : 1 ≤ d := by omega
  refine Rc.blk (c := []) (s2 := (2, [(0, .ref 0), (1, .int v1), (2, .int v2), (3, .int v3)], [.int v1, .ref 0], σ)) 0 rfl rfl (trivial) ?_
  obtain ⟨r1, σ1, hc, h⟩ := bd_some h
  refine Rc.call (Ev.mono d) (v := some (.int r1)) (as := [.ref 0, .int v1]) (r := []) 1 rfl rfl rfl rfl ⟨rfl, Nat.le_of_ble_eq_true rfl⟩ (j_isQuantity_0_ok (by omega) hc) ?_
  show Rc _ _ _ (5, [(0, .ref 0), (1, .int v1), (2, .int v2), (3, .int v3)], [.int r1], σ1) _
  refine Rc.blk (c := []) (s2 := (if ¬ r1 = 0 then 14 else 8, [(0, .ref 0), (1, .int v1), (2, .int v2), (3, .int v3)], [], σ1)) 2 rfl rfl (trivial) ?_
  by_cases c6 : r1 = 0
  · rw [if_pos c6] at h
    refine Rc.ifn (fun q => q c6) ?_
    refine Rc.blk (c := []) (s2 := (10, [(0, .ref 0), (1, .int v1), (2, .int v2), (3, .int v3)], [.int (-1), .ref 0], σ1)) 3 rfl rfl (trivial) ?_
    obtain ⟨r5, σ5, hc, h⟩ := bd_some h
    refine Rc.call (Ev.mono d) (v := some (.int r5)) (as := [.ref 0, .int (-1)]) (r := []) 4 rfl rfl rfl rfl ⟨rfl, Nat.le_of_ble_eq_true rfl⟩ (j_refused_0_ok (by omega) hc) ?_
    show Rc _ _ _ (13, [(0, .ref 0), (1, .int v1), (2, .int v2), (3, .int v3)], [.int r5], σ5) _
    obtain ⟨rfl, rfl⟩ := some_pair h
    exact Rc.ret 5 rfl rfl rfl trivial ⟨rfl, rfl⟩
  · rw [if_neg c6] at h
    refine Rc.ifp c6 ?_
    refine Rc.blk (c := []) (s2 := (if v2 < 0 then 27 else 18, [(0, .ref 0), (1, .int v1), (2, .int v2), (3, .int v3)], [], σ1)) 6 rfl rfl (trivial) ?_
    by_cases c4 : v2 < 0
    · rw [if_pos c4] at h
      refine Rc.ifp c4 ?_
      refine Rc.pick [0] (lv2 := [(0, .ref 0)]) rfl ?_
      exact j_scale_0_b27_ok hd _ _ _ h
    · rw [if_neg c4] at h
      refine Rc.ifn c4 ?_
      refine Rc.blk (c := []) (s2 := (if v2 ≤ 0 then 34 else 22, [(0, .ref 0), (1, .int v1), (2, .int v2), (3, .int v3)], [], σ1)) 7 rfl rfl (trivial) ?_
      by_cases c3 : v2 ≤ 0
      · rw [if_pos c3] at h
        refine Rc.ifp c3 ?_
        exact j_scale_0_b34_ok hd _ _ _ _ _ _ h
      · rw [if_neg c3] at h
        refine Rc.ifn c3 ?_
        refine Rc.blk (c := []) (s2 := (if 1 ≤ v3 then 34 else 27, [(0, .ref 0), (1, .int v1), (2, .int v2), (3, .int v3)], [], σ1)) 8 rfl rfl (trivial) ?_
        by_cases c2 : 1 ≤ v3
        · rw [if_pos c2] at h
          refine Rc.ifp c2 ?_
          exact j_scale_0_b34_ok hd _ _ _ _ _ _ h
        · rw [if_neg c2] at h
          refine Rc.ifn c2 ?_
          refine Rc.pick [0] (lv2 := [(0, .ref 0)]) rfl ?_
          exact j_scale_0_b27_ok hd _ _ _ h
theorem j_hasScale_1_b14_ok {d : Nat} (hd : 0 ≤ d) (s0 : Int32) (σ : Sg) (r : Int32) (σ2 : Sg) (h : j_hasScale_1_b14 s0 σ = some (r, σ2)) : Rc none (Ev MT CT d) sg15 (14, [], [.int s0], σ) (fun v s => v = some (.int r) ∧ s = σ2) := by
  unfold j_hasScale_1_b14 at h
  obtain ⟨g, h⟩ := gd_some h
  obtain ⟨rfl, rfl⟩ := some_pair h
  exact Rc.ret 3 rfl rfl rfl (nbB_ok g) ⟨rfl, rfl⟩
theorem j_hasScale_1_ok {d : Nat} (hd : 1 ≤ d) {v1 : Int32} {σ : Sg} {r : Int32} {σ2 : Sg} (h : j_hasScale_1 v1 σ = some (r, σ2)) : Ev MT CT d 15 [.ref 1, .int v1] σ (fun v s => v = some (.int r) ∧ s = σ2) := by
  obtain ⟨d, rfl⟩ : ∃ e, d = e + 1 := ⟨d - 1, by omega⟩
  refine ⟨Nat.le_of_ble_eq_true rfl, ?_⟩
  show Rc none (Ev MT CT d) sg15 (0, [(0, .ref 1), (1, .int v1)], [], σ) _
  unfold j_hasScale_1 at h
  have hd : 0 ≤ d := by omega
  obtain ⟨g1, h⟩ := gd_some h
  refine Rc.blk (c := [_, _]) (s2 := (if (σ.1 12 v1.toNatClampNeg) = 0 then 13 else 9, [(0, .ref 1), (1, .int v1)], [], σ)) 0 rfl rfl (conj_c (rfl) (conj_c (⟨rfl, inB_in g1⟩) (trivial))) ?_
  by_cases c2 : (σ.1 12 v1.toNatClampNeg) = 0
  · rw [if_pos c2] at h
    refine Rc.ifp c2 ?_
    refine Rc.blk (c := []) (s2 := (14, [(0, .ref 1), (1, .int v1)], [.int 0], σ)) 2 rfl rfl (trivial) ?_
    refine Rc.pick [] (lv2 := []) rfl ?_
    exact j_hasScale_1_b14_ok hd _ _ _ _ h
  · rw [if_neg c2] at h
    refine Rc.ifn c2 ?_
    refine Rc.blk (c := []) (s2 := (14, [(0, .ref 1), (1, .int v1)], [.int 1], σ)) 1 rfl rfl (trivial) ?_
    refine Rc.pick [] (lv2 := []) rfl ?_
    exact j_hasScale_1_b14_ok hd _ _ _ _ h
theorem j_scaled_0_ok {d : Nat} (hd : 3 ≤ d) {v1 : Int32} {v2 : Int32} {σ : Sg} {r : Int32} {σ2 : Sg} (h : j_scaled_0 v1 v2 σ = some (r, σ2)) : Ev MT CT d 75 [.ref 0, .int v1, .int v2] σ (fun v s => v = some (.int r) ∧ s = σ2) := by
  obtain ⟨d, rfl⟩ : ∃ e, d = e + 1 := ⟨d - 1, by omega⟩
  refine ⟨Nat.le_of_ble_eq_true rfl, ?_⟩
  show Rc none (Ev MT CT d) sg75 (0, [(0, .ref 0), (1, .int v1), (2, .int v2)], [], σ) _
  unfold j_scaled_0 at h
  have hd : 2 ≤ d := by omega
  refine Rc.blk (c := []) (s2 := (2, [(0, .ref 0), (1, .int v1), (2, .int v2)], [.int v1, .ref 0], σ)) 0 rfl rfl (trivial) ?_
  obtain ⟨r1, σ1, hc, h⟩ := bd_some h
  refine Rc.call (Ev.mono d) (v := some (.int r1)) (as := [.ref 0, .int v1]) (r := []) 1 rfl rfl rfl rfl ⟨rfl, Nat.le_of_ble_eq_true rfl⟩ (j_isQuantity_0_ok (by omega) hc) ?_
  show Rc _ _ _ (5, [(0, .ref 0), (1, .int v1), (2, .int v2)], [.int r1], σ1) _
  refine Rc.blk (c := []) (s2 := (if ¬ r1 = 0 then 14 else 8, [(0, .ref 0), (1, .int v1), (2, .int v2)], [], σ1)) 2 rfl rfl (trivial) ?_
  by_cases c11 : r1 = 0
  · rw [if_pos c11] at h
    refine Rc.ifn (fun q => q c11) ?_
    refine Rc.blk (c := []) (s2 := (10, [(0, .ref 0), (1, .int v1), (2, .int v2)], [.int (-1), .ref 0], σ1)) 3 rfl rfl (trivial) ?_
    obtain ⟨r10, σ10, hc, h⟩ := bd_some h
    refine Rc.call (Ev.mono d) (v := some (.int r10)) (as := [.ref 0, .int (-1)]) (r := []) 4 rfl rfl rfl rfl ⟨rfl, Nat.le_of_ble_eq_true rfl⟩ (j_refused_0_ok (by omega) hc) ?_
    show Rc _ _ _ (13, [(0, .ref 0), (1, .int v1), (2, .int v2)], [.int r10], σ10) _
    obtain ⟨rfl, rfl⟩ := some_pair h
    exact Rc.ret 5 rfl rfl rfl trivial ⟨rfl, rfl⟩
  · rw [if_neg c11] at h
    refine Rc.ifp c11 ?_
    refine Rc.blk (c := []) (s2 := (15, [(0, .ref 0), (1, .int v1), (2, .int v2)], [.int v2], σ1)) 6 rfl rfl (trivial) ?_
    obtain ⟨r2, σ2, hc, h⟩ := bd_some h
    refine Rc.call (Ev.mono d) (v := some (.int r2)) (as := [.int v2]) (r := []) 7 rfl rfl rfl rfl (Nat.le_of_ble_eq_true rfl) (j_isPart_s_ok (by omega) hc) ?_
    show Rc _ _ _ (18, [(0, .ref 0), (1, .int v1), (2, .int v2)], [.int r2], σ2) _
    refine Rc.blk (c := []) (s2 := (if ¬ r2 = 0 then 28 else 21, [(0, .ref 0), (1, .int v1), (2, .int v2)], [], σ2)) 8 rfl rfl (trivial) ?_
    by_cases c9 : r2 = 0
    · rw [if_pos c9] at h
      refine Rc.ifn (fun q => q c9) ?_
      refine Rc.blk (c := []) (s2 := (24, [(0, .ref 0), (1, .int v1), (2, .int v2)], [.int (-2), .ref 0], σ2)) 9 rfl rfl (trivial) ?_
      obtain ⟨r8, σ8, hc, h⟩ := bd_some h
      refine Rc.call (Ev.mono d) (v := some (.int r8)) (as := [.ref 0, .int (-2)]) (r := []) 10 rfl rfl rfl rfl ⟨rfl, Nat.le_of_ble_eq_true rfl⟩ (j_refused_0_ok (by omega) hc) ?_
      show Rc _ _ _ (27, [(0, .ref 0), (1, .int v1), (2, .int v2)], [.int r8], σ8) _
      obtain ⟨rfl, rfl⟩ := some_pair h
      exact Rc.ret 11 rfl rfl rfl trivial ⟨rfl, rfl⟩
    · rw [if_neg c9] at h
      refine Rc.ifp c9 ?_
      refine Rc.blk (c := [_]) (s2 := (33, [(0, .ref 0), (1, .int v1), (2, .int v2)], [.int v1, .ref 1], σ2)) 12 rfl rfl (conj_c (rfl) (trivial)) ?_
      obtain ⟨r3, σ3, hc, h⟩ := bd_some h
      refine Rc.call (Ev.mono d) (v := some (.int r3)) (as := [.ref 1, .int v1]) (r := []) 13 rfl rfl rfl rfl ⟨rfl, Nat.le_of_ble_eq_true rfl⟩ (j_hasScale_1_ok (by omega) hc) ?_
      show Rc _ _ _ (36, [(0, .ref 0), (1, .int v1), (2, .int v2)], [.int r3], σ3) _
      refine Rc.blk (c := []) (s2 := (if ¬ r3 = 0 then 42 else 39, [(0, .ref 0), (1, .int v1), (2, .int v2)], [], σ3)) 14 rfl rfl (trivial) ?_
      by_cases c7 : r3 = 0
      · rw [if_pos c7] at h
        refine Rc.ifn (fun q => q c7) ?_
        refine Rc.blk (c := []) (s2 := (41, [(0, .ref 0), (1, .int v1), (2, .int v2)], [.int (-9)], σ3)) 15 rfl rfl (trivial) ?_
        obtain ⟨rfl, rfl⟩ := some_pair h
        exact Rc.ret 16 rfl rfl rfl trivial ⟨rfl, rfl⟩
      · rw [if_neg c7] at h
        refine Rc.ifp c7 ?_
        obtain ⟨g4, h⟩ := gd_some h
        obtain ⟨g5, h⟩ := gd_some h
        refine Rc.blk (c := [_, _, _, _, _, _]) (s2 := (63, [(0, .ref 0), (1, .int v1), (2, .int v2)], [.int v2, .long ((σ3.1 13 v1.toNatClampNeg).toInt64), .long ((σ3.1 12 v1.toNatClampNeg).toInt64)], σ3)) 17 rfl rfl (conj_c (rfl) (conj_c (rfl) (conj_c (⟨rfl, inB_in g4⟩) (conj_c (rfl) (conj_c (rfl) (conj_c (⟨rfl, inB_in g5⟩) (trivial))))))) ?_
        obtain ⟨r6, σ6, hc, h⟩ := bd_some h
        refine Rc.call (Ev.mono d) (v := some (.long r6)) (as := [.long ((σ3.1 12 v1.toNatClampNeg).toInt64), .long ((σ3.1 13 v1.toNatClampNeg).toInt64), .int v2]) (r := []) 18 rfl rfl rfl rfl (Nat.le_of_ble_eq_true rfl) (j_partOf_s_ok (by omega) hc) ?_
        show Rc _ _ _ (66, [(0, .ref 0), (1, .int v1), (2, .int v2)], [.long r6], σ6) _
        refine Rc.blk (c := []) (s2 := (67, [(0, .ref 0), (1, .int v1), (2, .int v2)], [.int r6.toInt32], σ6)) 19 rfl rfl (trivial) ?_
        obtain ⟨rfl, rfl⟩ := some_pair h
        exact Rc.ret 20 rfl rfl rfl trivial ⟨rfl, rfl⟩
theorem j_scaledSet_1_b28_ok {d : Nat} (hd : 1 ≤ d) {k4 : Int32 → Int32 → Sg → Option (Int32 × Sg)} (hk4 : ∀ (v1 : Int32) (v2 : Int32) (σ : Sg) (r : Int32) (σ2 : Sg), k4 v1 v2 σ = some (r, σ2) → Rc none (Ev MT CT d) sg16 (4, [(0, .ref 1), (1, .int v1), (2, .int v2)], [], σ) (fun v s => v = some (.int r) ∧ s = σ2)) (v2 : Int32) (s0 : Int32) (s1 : Int32) (σ : Sg) (r : Int32) (σ2 : Sg) (h : j_scaledSet_1_b28 k4 v2 s0 s1 σ = some (r, σ2)) : Rc none (Ev MT CT d) sg16 (28, [(0, .ref 1), (2, .int v2)], [.int s1, .int s0], σ) (fun v s => v = some (.int r) ∧ s = σ2) := by
  unfold j_scaledSet_1_b28 at h
  refine Rc.blk (c := []) (s2 := (4, [(2, .int (v2 + 1)), (1, .int (s0 ||| s1)), (0, .ref 1)], [], σ)) 7 rfl rfl (trivial) ?_
  refine Rc.pick [2, 1, 0] (lv2 := [(0, .ref 1), (1, .int (s0 ||| s1)), (2, .int (v2 + 1))]) rfl ?_
  exact hk4 _ _ _ _ _ h
theorem j_scaledSet_1_H4_ok {d : Nat} (hd : 1 ≤ d) {k4 : Int32 → Int32 → Sg → Option (Int32 × Sg)} (hk4 : ∀ (v1 : Int32) (v2 : Int32) (σ : Sg) (r : Int32) (σ2 : Sg), k4 v1 v2 σ = some (r, σ2) → Rc none (Ev MT CT d) sg16 (4, [(0, .ref 1), (1, .int v1), (2, .int v2)], [], σ) (fun v s => v = some (.int r) ∧ s = σ2)) (v1 : Int32) (v2 : Int32) (σ : Sg) (r : Int32) (σ2 : Sg) (h : j_scaledSet_1_H4 k4 v1 v2 σ = some (r, σ2)) : Rc none (Ev MT CT d) sg16 (4, [(0, .ref 1), (1, .int v1), (2, .int v2)], [], σ) (fun v s => v = some (.int r) ∧ s = σ2) := by
  unfold j_scaledSet_1_H4 at h
  refine Rc.blk (c := [_]) (s2 := (if (σ.1 1 0) ≤ v2 then 36 else 12, [(0, .ref 1), (1, .int v1), (2, .int v2)], [], σ)) 1 rfl rfl (conj_c (rfl) (trivial)) ?_
  by_cases c3 : (σ.1 1 0) ≤ v2
  · rw [if_pos c3] at h
    refine Rc.ifp c3 ?_
    refine Rc.blk (c := []) (s2 := (37, [(0, .ref 1), (1, .int v1), (2, .int v2)], [.int v1], σ)) 8 rfl rfl (trivial) ?_
    obtain ⟨rfl, rfl⟩ := some_pair h
    exact Rc.ret 9 rfl rfl rfl trivial ⟨rfl, rfl⟩
  · rw [if_neg c3] at h
    refine Rc.ifn c3 ?_
    refine Rc.blk (c := []) (s2 := (15, [(0, .ref 1), (1, .int v1), (2, .int v2)], [.int v2, .ref 1, .int v1], σ)) 2 rfl rfl (trivial) ?_
    obtain ⟨r1, σ1, hc, h⟩ := bd_some h
    refine Rc.call (Ev.mono d) (v := some (.int r1)) (as := [.ref 1, .int v2]) (r := [.int v1]) 3 rfl rfl rfl rfl ⟨rfl, Nat.le_of_ble_eq_true rfl⟩ (j_hasScale_1_ok (by omega) hc) ?_
    show Rc _ _ _ (18, [(0, .ref 1), (1, .int v1), (2, .int v2)], [.int r1, .int v1], σ1) _
    refine Rc.blk (c := []) (s2 := (if r1 = 0 then 27 else 21, [(0, .ref 1), (1, .int v1), (2, .int v2)], [.int v1], σ1)) 4 rfl rfl (trivial) ?_
    by_cases c2 : r1 = 0
    · rw [if_pos c2] at h
      refine Rc.ifp c2 ?_
      refine Rc.blk (c := []) (s2 := (28, [(0, .ref 1), (1, .int v1), (2, .int v2)], [.int 0, .int v1], σ1)) 6 rfl rfl (trivial) ?_
      refine Rc.pick [0, 2] (lv2 := [(0, .ref 1), (2, .int v2)]) rfl ?_
      exact j_scaledSet_1_b28_ok hd hk4 _ _ _ _ _ _ h
    · rw [if_neg c2] at h
      refine Rc.ifn c2 ?_
      refine Rc.blk (c := []) (s2 := (28, [(0, .ref 1), (1, .int v1), (2, .int v2)], [.int ((1 : Int32) <<< (v2 &&& 31)), .int v1], σ1)) 5 rfl rfl (trivial) ?_
      refine Rc.pick [0, 2] (lv2 := [(0, .ref 1), (2, .int v2)]) rfl ?_
      exact j_scaledSet_1_b28_ok hd hk4 _ _ _ _ _ _ h
theorem j_scaledSet_1_L4_ok {d : Nat} (hd : 1 ≤ d) : ∀ (n : Nat) (v1 : Int32) (v2 : Int32) (σ : Sg) (r : Int32) (σ2 : Sg), j_scaledSet_1_L4 n v1 v2 σ = some (r, σ2) → Rc none (Ev MT CT d) sg16 (4, [(0, .ref 1), (1, .int v1), (2, .int v2)], [], σ) (fun v s => v = some (.int r) ∧ s = σ2)
  | 0, _, _, _, _, _, h => by cases h
  | n + 1, v1, v2, σ, r, σ2, h => j_scaledSet_1_H4_ok hd (j_scaledSet_1_L4_ok hd n) v1 v2 σ r σ2 h
theorem j_scaledSet_1_ok {d : Nat} (hd : 2 ≤ d) {σ : Sg} {r : Int32} {σ2 : Sg} (h : j_scaledSet_1 σ = some (r, σ2)) : Ev MT CT d 16 [.ref 1] σ (fun v s => v = some (.int r) ∧ s = σ2) := by
  obtain ⟨d, rfl⟩ : ∃ e, d = e + 1 := ⟨d - 1, by omega⟩
  refine ⟨Nat.le_of_ble_eq_true rfl, ?_⟩
  show Rc none (Ev MT CT d) sg16 (0, [(0, .ref 1)], [], σ) _
  unfold j_scaledSet_1 at h
  have hd : 1 ≤ d := by omega
  refine Rc.blk (c := []) (s2 := (4, [(2, .int 0), (1, .int 0), (0, .ref 1)], [], σ)) 0 rfl rfl (trivial) ?_
  refine Rc.pick [2, 1, 0] (lv2 := [(0, .ref 1), (1, .int 0), (2, .int 0)]) rfl ?_
  exact j_scaledSet_1_L4_ok hd fu _ _ _ _ _ h
theorem j_haveScales_1_b16_ok {d : Nat} (hd : 2 ≤ d) (s0 : Int32) (σ : Sg) (r : Int32) (σ2 : Sg) (h : j_haveScales_1_b16 s0 σ = some (r, σ2)) : Rc none (Ev MT CT d) sg17 (16, [], [.int s0], σ) (fun v s => v = some (.int r) ∧ s = σ2) := by
  unfold j_haveScales_1_b16 at h
  obtain ⟨g, h⟩ := gd_some h
  obtain ⟨rfl, rfl⟩ := some_pair h
  exact Rc.ret 5 rfl rfl rfl (nbB_ok g) ⟨rfl, rfl⟩
theorem j_haveScales_1_ok {d : Nat} (hd : 3 ≤ d) {v1 : Int32} {σ : Sg} {r : Int32} {σ2 : Sg} (h : j_haveScales_1 v1 σ = some (r, σ2)) : Ev MT CT d 17 [.ref 1, .int v1] σ (fun v s => v = some (.int r) ∧ s = σ2) := by
  obtain ⟨d, rfl⟩ : ∃ e, d = e + 1 := ⟨d - 1, by omega⟩
  refine ⟨Nat.le_of_ble_eq_true rfl, ?_⟩
  show Rc none (Ev MT CT d) sg17 (0, [(0, .ref 1), (1, .int v1)], [], σ) _
  unfold j_haveScales_1 at h
  have hd : 2 ≤ d := by omega
  refine Rc.blk (c := []) (s2 := (2, [(0, .ref 1), (1, .int v1)], [.ref 1, .int v1], σ)) 0 rfl rfl (trivial) ?_
  obtain ⟨r1, σ1, hc, h⟩ := bd_some h
  refine Rc.call (Ev.mono d) (v := some (.int r1)) (as := [.ref 1]) (r := [.int v1]) 1 rfl rfl rfl rfl ⟨rfl, Nat.le_of_ble_eq_true rfl⟩ (j_scaledSet_1_ok (by omega) hc) ?_
  show Rc _ _ _ (5, [(0, .ref 1), (1, .int v1)], [.int r1, .int v1], σ1) _
  refine Rc.blk (c := []) (s2 := (if ¬ (v1 &&& (r1 ^^^ (-1))) = 0 then 15 else 11, [(0, .ref 1), (1, .int v1)], [], σ1)) 2 rfl rfl (trivial) ?_
  by_cases c2 : (v1 &&& (r1 ^^^ (-1))) = 0
  · rw [if_pos c2] at h
    refine Rc.ifn (fun q => q c2) ?_
    refine Rc.blk (c := []) (s2 := (16, [(0, .ref 1), (1, .int v1)], [.int 1], σ1)) 3 rfl rfl (trivial) ?_
    refine Rc.pick [] (lv2 := []) rfl ?_
    exact j_haveScales_1_b16_ok hd _ _ _ _ h
  · rw [if_neg c2] at h
    refine Rc.ifp c2 ?_
    refine Rc.blk (c := []) (s2 := (16, [(0, .ref 1), (1, .int v1)], [.int 0], σ1)) 4 rfl rfl (trivial) ?_
    refine Rc.pick [] (lv2 := []) rfl ?_
    exact j_haveScales_1_b16_ok hd _ _ _ _ h
theorem j_times_s_b42_ok {d : Nat} (hd : 0 ≤ d) (v2 : Int32) (σ : Sg) (r : Int32) (σ2 : Sg) (h : j_times_s_b42 v2 σ = some (r, σ2)) : Rc none (Ev MT CT d) sg19 (42, [(2, .int v2)], [], σ) (fun v s => v = some (.int r) ∧ s = σ2) := by
  unfold j_times_s_b42 at h
  refine Rc.blk (c := []) (s2 := (43, [(2, .int v2)], [.int v2], σ)) 6 rfl rfl (trivial) ?_
  obtain ⟨rfl, rfl⟩ := some_pair h
  exact Rc.ret 7 rfl rfl rfl trivial ⟨rfl, rfl⟩
theorem j_times_s_H7_ok {d : Nat} (hd : 0 ≤ d) {k7 : Int32 → Int32 → Int32 → Int32 → Sg → Option (Int32 × Sg)} (hk7 : ∀ (v0 : Int32) (v2 : Int32) (v3 : Int32) (v4 : Int32) (σ : Sg) (r : Int32) (σ2 : Sg), k7 v0 v2 v3 v4 σ = some (r, σ2) → Rc none (Ev MT CT d) sg19 (7, [(0, .int v0), (2, .int v2), (3, .int v3), (4, .int v4)], [], σ) (fun v s => v = some (.int r) ∧ s = σ2)) (v0 : Int32) (v2 : Int32) (v3 : Int32) (v4 : Int32) (σ : Sg) (r : Int32) (σ2 : Sg) (h : j_times_s_H7 k7 v0 v2 v3 v4 σ = some (r, σ2)) : Rc none (Ev MT CT d) sg19 (7, [(0, .int v0), (2, .int v2), (3, .int v3), (4, .int v4)], [], σ) (fun v s => v = some (.int r) ∧ s = σ2) := by
  unfold j_times_s_H7 at h
  refine Rc.blk (c := []) (s2 := (if 99 ≤ v4 then 42 else 14, [(0, .int v0), (2, .int v2), (3, .int v3), (4, .int v4)], [], σ)) 1 rfl rfl (trivial) ?_
  by_cases c6 : 99 ≤ v4
  · rw [if_pos c6] at h
    refine Rc.ifp c6 ?_
    refine Rc.pick [1] (lv2 := [(2, .int v2)]) rfl ?_
    exact j_times_s_b42_ok hd _ _ _ _ h
  · rw [if_neg c6] at h
    refine Rc.ifn c6 ?_
    refine Rc.blk (c := []) (s2 := (if v3 ≤ 0 then 42 else 18, [(0, .int v0), (2, .int v2), (3, .int v3), (4, .int v4)], [], σ)) 2 rfl rfl (trivial) ?_
    by_cases c5 : v3 ≤ 0
    · rw [if_pos c5] at h
      refine Rc.ifp c5 ?_
      refine Rc.pick [1] (lv2 := [(2, .int v2)]) rfl ?_
      exact j_times_s_b42_ok hd _ _ _ _ h
    · rw [if_neg c5] at h
      refine Rc.ifn c5 ?_
      refine Rc.blk (c := []) (s2 := (if v0 ≤ 1 then 42 else 23, [(0, .int v0), (2, .int v2), (3, .int v3), (4, .int v4)], [], σ)) 3 rfl rfl (trivial) ?_
      by_cases c4 : v0 ≤ 1
      · rw [if_pos c4] at h
        refine Rc.ifp c4 ?_
        refine Rc.pick [1] (lv2 := [(2, .int v2)]) rfl ?_
        exact j_times_s_b42_ok hd _ _ _ _ h
      · rw [if_neg c4] at h
        refine Rc.ifn c4 ?_
        obtain ⟨g1, h⟩ := gd_some h
        refine Rc.blk (c := [_]) (s2 := (if ¬ (irm v3 v0) = 0 then 42 else 29, [(0, .int v0), (2, .int v2), (3, .int v3), (4, .int v4)], [], σ)) 4 rfl rfl (conj_c (neB_ne g1) (trivial)) ?_
        by_cases c3 : (irm v3 v0) = 0
        · rw [if_pos c3] at h
          refine Rc.ifn (fun q => q c3) ?_
          obtain ⟨g2, h⟩ := gd_some h
          refine Rc.blk (c := [_]) (s2 := (7, [(4, .int (v4 + 1)), (2, .int (v2 + 1)), (3, .int (v3 / v0)), (0, .int v0)], [], σ)) 5 rfl rfl (conj_c (neB_ne g2) (trivial)) ?_
          refine Rc.pick [3, 1, 2, 0] (lv2 := [(0, .int v0), (2, .int (v2 + 1)), (3, .int (v3 / v0)), (4, .int (v4 + 1))]) rfl ?_
          exact hk7 _ _ _ _ _ _ _ h
        · rw [if_neg c3] at h
          refine Rc.ifp c3 ?_
          refine Rc.pick [1] (lv2 := [(2, .int v2)]) rfl ?_
          exact j_times_s_b42_ok hd _ _ _ _ h
theorem j_times_s_L7_ok {d : Nat} (hd : 0 ≤ d) : ∀ (n : Nat) (v0 : Int32) (v2 : Int32) (v3 : Int32) (v4 : Int32) (σ : Sg) (r : Int32) (σ2 : Sg), j_times_s_L7 n v0 v2 v3 v4 σ = some (r, σ2) → Rc none (Ev MT CT d) sg19 (7, [(0, .int v0), (2, .int v2), (3, .int v3), (4, .int v4)], [], σ) (fun v s => v = some (.int r) ∧ s = σ2)
  | 0, _, _, _, _, _, _, _, h => by cases h
  | n + 1, v0, v2, v3, v4, σ, r, σ2, h => j_times_s_H7_ok hd (j_times_s_L7_ok hd n) v0 v2 v3 v4 σ r σ2 h
theorem j_times_s_ok {d : Nat} (hd : 1 ≤ d) {v0 : Int32} {v1 : Int32} {σ : Sg} {r : Int32} {σ2 : Sg} (h : j_times_s v0 v1 σ = some (r, σ2)) : Ev MT CT d 19 [.int v0, .int v1] σ (fun v s => v = some (.int r) ∧ s = σ2) := by
  obtain ⟨d, rfl⟩ : ∃ e, d = e + 1 := ⟨d - 1, by omega⟩
  refine ⟨Nat.le_of_ble_eq_true rfl, ?_⟩
  show Rc none (Ev MT CT d) sg19 (0, [(0, .int v0), (1, .int v1)], [], σ) _
  unfold j_times_s at h
  have hd : 0 ≤ d := by omega
  refine Rc.blk (c := []) (s2 := (7, [(4, .int 0), (3, .int v1), (2, .int 0), (0, .int v0), (1, .int v1)], [], σ)) 0 rfl rfl (trivial) ?_
  refine Rc.pick [3, 2, 1, 0] (lv2 := [(0, .int v0), (2, .int 0), (3, .int v1), (4, .int 0)]) rfl ?_
  exact j_times_s_L7_ok hd fu _ _ _ _ _ _ _ h
theorem j_together_1_113_b67_ok {d : Nat} (hd : 1 ≤ d) {k6 : Int32 → Int32 → Int64 → Int32 → Sg → Option (Int64 × Sg)} (hk6 : ∀ (v2 : Int32) (v3 : Int32) (v4 : Int64) (v6 : Int32) (σ : Sg) (r : Int64) (σ2 : Sg), k6 v2 v3 v4 v6 σ = some (r, σ2) → Rc none (Ev MT CT d) sg18 (6, [(0, .ref 1), (1, .ref 113), (2, .int v2), (3, .int v3), (4, .long v4), (6, .int v6)], [], σ) (fun v s => v = some (.long r) ∧ s = σ2)) (v2 : Int32) (v3 : Int32) (v4 : Int64) (v6 : Int32) (σ : Sg) (r : Int64) (σ2 : Sg) (h : j_together_1_113_b67 k6 v2 v3 v4 v6 σ = some (r, σ2)) : Rc none (Ev MT CT d) sg18 (67, [(0, .ref 1), (1, .ref 113), (2, .int v2), (3, .int v3), (4, .long v4), (6, .int v6)], [], σ) (fun v s => v = some (.long r) ∧ s = σ2) := by
  unfold j_together_1_113_b67 at h
  refine Rc.blk (c := []) (s2 := (6, [(6, .int (v6 + 1)), (0, .ref 1), (1, .ref 113), (2, .int v2), (3, .int v3), (4, .long v4)], [], σ)) 11 rfl rfl (trivial) ?_
  refine Rc.pick [1, 2, 3, 4, 5, 0] (lv2 := [(0, .ref 1), (1, .ref 113), (2, .int v2), (3, .int v3), (4, .long v4), (6, .int (v6 + 1))]) rfl ?_
  exact hk6 _ _ _ _ _ _ _ h
theorem j_together_1_113_H6_ok {d : Nat} (hd : 1 ≤ d) {k6 : Int32 → Int32 → Int64 → Int32 → Sg → Option (Int64 × Sg)} (hk6 : ∀ (v2 : Int32) (v3 : Int32) (v4 : Int64) (v6 : Int32) (σ : Sg) (r : Int64) (σ2 : Sg), k6 v2 v3 v4 v6 σ = some (r, σ2) → Rc none (Ev MT CT d) sg18 (6, [(0, .ref 1), (1, .ref 113), (2, .int v2), (3, .int v3), (4, .long v4), (6, .int v6)], [], σ) (fun v s => v = some (.long r) ∧ s = σ2)) (v2 : Int32) (v3 : Int32) (v4 : Int64) (v6 : Int32) (σ : Sg) (r : Int64) (σ2 : Sg) (h : j_together_1_113_H6 k6 v2 v3 v4 v6 σ = some (r, σ2)) : Rc none (Ev MT CT d) sg18 (6, [(0, .ref 1), (1, .ref 113), (2, .int v2), (3, .int v3), (4, .long v4), (6, .int v6)], [], σ) (fun v s => v = some (.long r) ∧ s = σ2) := by
  unfold j_together_1_113_H6 at h
  refine Rc.blk (c := [_]) (s2 := (if (σ.1 1 0) ≤ v6 then 73 else 15, [(0, .ref 1), (1, .ref 113), (2, .int v2), (3, .int v3), (4, .long v4), (6, .int v6)], [], σ)) 1 rfl rfl (conj_c (rfl) (trivial)) ?_
  by_cases c10 : (σ.1 1 0) ≤ v6
  · rw [if_pos c10] at h
    refine Rc.ifp c10 ?_
    refine Rc.blk (c := []) (s2 := (75, [(0, .ref 1), (1, .ref 113), (2, .int v2), (3, .int v3), (4, .long v4), (6, .int v6)], [.long v4], σ)) 12 rfl rfl (trivial) ?_
    obtain ⟨rfl, rfl⟩ := some_pair h
    exact Rc.ret 13 rfl rfl rfl trivial ⟨rfl, rfl⟩
  · rw [if_neg c10] at h
    refine Rc.ifn c10 ?_
    refine Rc.blk (c := []) (s2 := (18, [(0, .ref 1), (1, .ref 113), (2, .int v2), (3, .int v3), (4, .long v4), (6, .int v6)], [.int v6, .int v2], σ)) 2 rfl rfl (trivial) ?_
    obtain ⟨r1, σ1, hc, h⟩ := bd_some h
    refine Rc.call (Ev.mono d) (v := some (.int r1)) (as := [.int v2, .int v6]) (r := []) 3 rfl rfl rfl rfl (Nat.le_of_ble_eq_true rfl) (j_bit_s_ok (by omega) hc) ?_
    show Rc _ _ _ (21, [(0, .ref 1), (1, .ref 113), (2, .int v2), (3, .int v3), (4, .long v4), (6, .int v6)], [.int r1], σ1) _
    refine Rc.blk (c := []) (s2 := (if ¬ r1 = 1 then 67 else 25, [(0, .ref 1), (1, .ref 113), (2, .int v2), (3, .int v3), (4, .long v4), (6, .int v6)], [], σ1)) 4 rfl rfl (trivial) ?_
    by_cases c9 : r1 = 1
    · rw [if_pos c9] at h
      refine Rc.ifn (fun q => q c9) ?_
      obtain ⟨g2, h⟩ := gd_some h
      refine Rc.blk (c := [_]) (s2 := (if (σ1.1 113 v6.toNatClampNeg) = 0 then 67 else 32, [(0, .ref 1), (1, .ref 113), (2, .int v2), (3, .int v3), (4, .long v4), (6, .int v6)], [], σ1)) 5 rfl rfl (conj_c (⟨rfl, inB_in g2⟩) (trivial)) ?_
      by_cases c8 : (σ1.1 113 v6.toNatClampNeg) = 0
      · rw [if_pos c8] at h
        refine Rc.ifp c8 ?_
        exact j_together_1_113_b67_ok hd hk6 _ _ _ _ _ _ _ h
      · rw [if_neg c8] at h
        refine Rc.ifn c8 ?_
        obtain ⟨g3, h⟩ := gd_some h
        obtain ⟨g4, h⟩ := gd_some h
        refine Rc.blk (c := [_, _, _]) (s2 := (47, [(0, .ref 1), (1, .ref 113), (2, .int v2), (3, .int v3), (4, .long v4), (6, .int v6)], [.int (σ1.1 12 v6.toNatClampNeg), .int v3, .long ((σ1.1 113 v6.toNatClampNeg).toInt64), .long v4], σ1)) 6 rfl rfl (conj_c (⟨rfl, inB_in g3⟩) (conj_c (rfl) (conj_c (⟨rfl, inB_in g4⟩) (trivial)))) ?_
        obtain ⟨r5, σ5, hc, h⟩ := bd_some h
        refine Rc.call (Ev.mono d) (v := some (.int r5)) (as := [.int v3, .int (σ1.1 12 v6.toNatClampNeg)]) (r := [.long ((σ1.1 113 v6.toNatClampNeg).toInt64), .long v4]) 7 rfl rfl rfl rfl (Nat.le_of_ble_eq_true rfl) (j_times_s_ok (by omega) hc) ?_
        show Rc _ _ _ (50, [(0, .ref 1), (1, .ref 113), (2, .int v2), (3, .int v3), (4, .long v4), (6, .int v6)], [.int r5, .long ((σ1.1 113 v6.toNatClampNeg).toInt64), .long v4], σ5) _
        obtain ⟨g6, h⟩ := gd_some h
        refine Rc.blk (c := [_, _]) (s2 := (58, [(0, .ref 1), (1, .ref 113), (2, .int v2), (3, .int v3), (4, .long v4), (6, .int v6)], [.int (σ5.1 13 v6.toNatClampNeg), .int v3, .int r5, .long ((σ1.1 113 v6.toNatClampNeg).toInt64), .long v4], σ5)) 8 rfl rfl (conj_c (rfl) (conj_c (⟨rfl, inB_in g6⟩) (trivial))) ?_
        obtain ⟨r7, σ7, hc, h⟩ := bd_some h
        refine Rc.call (Ev.mono d) (v := some (.int r7)) (as := [.int v3, .int (σ5.1 13 v6.toNatClampNeg)]) (r := [.int r5, .long ((σ1.1 113 v6.toNatClampNeg).toInt64), .long v4]) 9 rfl rfl rfl rfl (Nat.le_of_ble_eq_true rfl) (j_times_s_ok (by omega) hc) ?_
        show Rc _ _ _ (61, [(0, .ref 1), (1, .ref 113), (2, .int v2), (3, .int v3), (4, .long v4), (6, .int v6)], [.int r7, .int r5, .long ((σ1.1 113 v6.toNatClampNeg).toInt64), .long v4], σ7) _
        refine Rc.blk (c := []) (s2 := (67, [(4, .long (v4 + (((σ1.1 113 v6.toNatClampNeg).toInt64) * ((r5 - r7).toInt64)))), (0, .ref 1), (1, .ref 113), (2, .int v2), (3, .int v3), (6, .int v6)], [], σ7)) 10 rfl rfl (trivial) ?_
        refine Rc.pick [1, 2, 3, 4, 0, 5] (lv2 := [(0, .ref 1), (1, .ref 113), (2, .int v2), (3, .int v3), (4, .long (v4 + (((σ1.1 113 v6.toNatClampNeg).toInt64) * ((r5 - r7).toInt64)))), (6, .int v6)]) rfl ?_
        exact j_together_1_113_b67_ok hd hk6 _ _ _ _ _ _ _ h
    · rw [if_neg c9] at h
      refine Rc.ifp c9 ?_
      exact j_together_1_113_b67_ok hd hk6 _ _ _ _ _ _ _ h
theorem j_together_1_113_L6_ok {d : Nat} (hd : 1 ≤ d) : ∀ (n : Nat) (v2 : Int32) (v3 : Int32) (v4 : Int64) (v6 : Int32) (σ : Sg) (r : Int64) (σ2 : Sg), j_together_1_113_L6 n v2 v3 v4 v6 σ = some (r, σ2) → Rc none (Ev MT CT d) sg18 (6, [(0, .ref 1), (1, .ref 113), (2, .int v2), (3, .int v3), (4, .long v4), (6, .int v6)], [], σ) (fun v s => v = some (.long r) ∧ s = σ2)
  | 0, _, _, _, _, _, _, _, h => by cases h
  | n + 1, v2, v3, v4, v6, σ, r, σ2, h => j_together_1_113_H6_ok hd (j_together_1_113_L6_ok hd n) v2 v3 v4 v6 σ r σ2 h
theorem j_together_1_113_ok {d : Nat} (hd : 2 ≤ d) {v2 : Int32} {v3 : Int32} {σ : Sg} {r : Int64} {σ2 : Sg} (h : j_together_1_113 v2 v3 σ = some (r, σ2)) : Ev MT CT d 18 [.ref 1, .ref 113, .int v2, .int v3] σ (fun v s => v = some (.long r) ∧ s = σ2) := by
  obtain ⟨d, rfl⟩ : ∃ e, d = e + 1 := ⟨d - 1, by omega⟩
  refine ⟨Nat.le_of_ble_eq_true rfl, ?_⟩
  show Rc none (Ev MT CT d) sg18 (0, [(0, .ref 1), (1, .ref 113), (2, .int v2), (3, .int v3)], [], σ) _
  unfold j_together_1_113 at h
  have hd : 1 ≤ d := by omega
  refine Rc.blk (c := []) (s2 := (6, [(6, .int 0), (4, .long 0), (0, .ref 1), (1, .ref 113), (2, .int v2), (3, .int v3)], [], σ)) 0 rfl rfl (trivial) ?_
  refine Rc.pick [2, 3, 4, 5, 1, 0] (lv2 := [(0, .ref 1), (1, .ref 113), (2, .int v2), (3, .int v3), (4, .long 0), (6, .int 0)]) rfl ?_
  exact j_together_1_113_L6_ok hd fu _ _ _ _ _ _ _ h
theorem j_isUnbalanced_0_113_H23_ok {d : Nat} (hd : 2 ≤ d) {k23 : Int32 → Int32 → Int32 → Sg → Option (Int32 × Sg)} (hk23 : ∀ (v2 : Int32) (v4 : Int32) (v5 : Int32) (σ : Sg) (r : Int32) (σ2 : Sg), k23 v2 v4 v5 σ = some (r, σ2) → Rc none (Ev MT CT d) sg111 (23, [(0, .ref 0), (1, .ref 113), (2, .int v2), (3, .ref 1004), (4, .int v4), (5, .int v5)], [], σ) (fun v s => v = some (.int r) ∧ s = σ2)) (v2 : Int32) (v4 : Int32) (v5 : Int32) (σ : Sg) (r : Int32) (σ2 : Sg) (h : j_isUnbalanced_0_113_H23 k23 v2 v4 v5 σ = some (r, σ2)) : Rc none (Ev MT CT d) sg111 (23, [(0, .ref 0), (1, .ref 113), (2, .int v2), (3, .ref 1004), (4, .int v4), (5, .int v5)], [], σ) (fun v s => v = some (.int r) ∧ s = σ2) := by
  unfold j_isUnbalanced_0_113_H23 at h
  refine Rc.blk (c := []) (s2 := (if v4 ≤ v5 then 60 else 30, [(0, .ref 0), (1, .ref 113), (2, .int v2), (3, .ref 1004), (4, .int v4), (5, .int v5)], [], σ)) 1 rfl rfl (trivial) ?_
  by_cases c4 : v4 ≤ v5
  · rw [if_pos c4] at h
    refine Rc.ifp c4 ?_
    refine Rc.blk (c := []) (s2 := (61, [(0, .ref 0), (1, .ref 113), (2, .int v2), (3, .ref 1004), (4, .int v4), (5, .int v5)], [.int 0], σ)) 8 rfl rfl (trivial) ?_
    obtain ⟨rfl, rfl⟩ := some_pair h
    exact Rc.ret 9 rfl rfl rfl (Or.inl rfl) ⟨rfl, rfl⟩
  · rw [if_neg c4] at h
    refine Rc.ifn c4 ?_
    obtain ⟨g1, h⟩ := gd_some h
    refine Rc.blk (c := [_, _]) (s2 := (44, [(6, .int (sv 1004 v5.toNatClampNeg)), (0, .ref 0), (1, .ref 113), (2, .int v2), (3, .ref 1004), (4, .int v4), (5, .int v5)], [.int (sv 1004 v5.toNatClampNeg), .int v2, .ref 113, .ref 1], σ)) 2 rfl rfl (conj_c (⟨by decide, inB_in g1⟩) (conj_c (rfl) (trivial))) ?_
    obtain ⟨r2, σ2, hc, h⟩ := bd_some h
    refine Rc.call (Ev.mono d) (v := some (.long r2)) (as := [.ref 1, .ref 113, .int v2, .int (sv 1004 v5.toNatClampNeg)]) (r := []) 3 rfl rfl rfl rfl ⟨rfl, Nat.le_of_ble_eq_true rfl⟩ (j_together_1_113_ok (by omega) hc) ?_
    show Rc _ _ _ (47, [(6, .int (sv 1004 v5.toNatClampNeg)), (0, .ref 0), (1, .ref 113), (2, .int v2), (3, .ref 1004), (4, .int v4), (5, .int v5)], [.long r2], σ2) _
    refine Rc.blk (c := []) (s2 := (if (lg_cmp r2 0) = 0 then 54 else 52, [(6, .int (sv 1004 v5.toNatClampNeg)), (0, .ref 0), (1, .ref 113), (2, .int v2), (3, .ref 1004), (4, .int v4), (5, .int v5)], [], σ2)) 4 rfl rfl (trivial) ?_
    by_cases c3 : (lg_cmp r2 0) = 0
    · rw [if_pos c3] at h
      refine Rc.ifp c3 ?_
      refine Rc.blk (c := []) (s2 := (23, [(5, .int (v5 + 1)), (6, .int (sv 1004 v5.toNatClampNeg)), (0, .ref 0), (1, .ref 113), (2, .int v2), (3, .ref 1004), (4, .int v4)], [], σ2)) 7 rfl rfl (trivial) ?_
      refine Rc.pick [2, 3, 4, 5, 6, 0] (lv2 := [(0, .ref 0), (1, .ref 113), (2, .int v2), (3, .ref 1004), (4, .int v4), (5, .int (v5 + 1))]) rfl ?_
      exact hk23 _ _ _ _ _ _ h
    · rw [if_neg c3] at h
      refine Rc.ifn c3 ?_
      refine Rc.blk (c := []) (s2 := (53, [(6, .int (sv 1004 v5.toNatClampNeg)), (0, .ref 0), (1, .ref 113), (2, .int v2), (3, .ref 1004), (4, .int v4), (5, .int v5)], [.int 1], σ2)) 5 rfl rfl (trivial) ?_
      obtain ⟨rfl, rfl⟩ := some_pair h
      exact Rc.ret 6 rfl rfl rfl (Or.inr rfl) ⟨rfl, rfl⟩
theorem j_isUnbalanced_0_113_L23_ok {d : Nat} (hd : 2 ≤ d) : ∀ (n : Nat) (v2 : Int32) (v4 : Int32) (v5 : Int32) (σ : Sg) (r : Int32) (σ2 : Sg), j_isUnbalanced_0_113_L23 n v2 v4 v5 σ = some (r, σ2) → Rc none (Ev MT CT d) sg111 (23, [(0, .ref 0), (1, .ref 113), (2, .int v2), (3, .ref 1004), (4, .int v4), (5, .int v5)], [], σ) (fun v s => v = some (.int r) ∧ s = σ2)
  | 0, _, _, _, _, _, _, h => by cases h
  | n + 1, v2, v4, v5, σ, r, σ2, h => j_isUnbalanced_0_113_H23_ok hd (j_isUnbalanced_0_113_L23_ok hd n) v2 v4 v5 σ r σ2 h
theorem j_isUnbalanced_0_113_ok {d : Nat} (hd : 3 ≤ d) {σ : Sg} {r : Int32} {σ2 : Sg} (h : j_isUnbalanced_0_113 σ = some (r, σ2)) : Ev MT CT d 111 [.ref 0, .ref 113] σ (fun v s => v = some (.int r) ∧ s = σ2) := by
  obtain ⟨d, rfl⟩ : ∃ e, d = e + 1 := ⟨d - 1, by omega⟩
  refine ⟨Nat.le_of_ble_eq_true rfl, ?_⟩
  show Rc none (Ev MT CT d) sg111 (0, [(0, .ref 0), (1, .ref 113)], [], σ) _
  unfold j_isUnbalanced_0_113 at h
  have hd : 2 ≤ d := by omega
  refine Rc.blk (c := [_, _, _]) (s2 := (23, [(5, .int 0), (4, .int 25), (3, .ref 1004), (2, .int (((1 : Int32) <<< ((σ.1 1 0) &&& 31)) - 1)), (0, .ref 0), (1, .ref 113)], [], σ)) 0 rfl rfl (conj_c (rfl) (conj_c (rfl) (conj_c ((by decide)) (trivial)))) ?_
  refine Rc.pick [4, 5, 3, 2, 1, 0] (lv2 := [(0, .ref 0), (1, .ref 113), (2, .int (((1 : Int32) <<< ((σ.1 1 0) &&& 31)) - 1)), (3, .ref 1004), (4, .int 25), (5, .int 0)]) rfl ?_
  exact j_isUnbalanced_0_113_L23_ok hd fu _ _ _ _ _ _ h
theorem j_setOf_113_b24_ok {d : Nat} (hd : 0 ≤ d) {k4 : Int32 → Int32 → Sg → Option (Int32 × Sg)} (hk4 : ∀ (v1 : Int32) (v2 : Int32) (σ : Sg) (r : Int32) (σ2 : Sg), k4 v1 v2 σ = some (r, σ2) → Rc none (Ev MT CT d) sg113 (4, [(0, .ref 113), (1, .int v1), (2, .int v2)], [], σ) (fun v s => v = some (.int r) ∧ s = σ2)) (v2 : Int32) (s0 : Int32) (s1 : Int32) (σ : Sg) (r : Int32) (σ2 : Sg) (h : j_setOf_113_b24 k4 v2 s0 s1 σ = some (r, σ2)) : Rc none (Ev MT CT d) sg113 (24, [(0, .ref 113), (2, .int v2)], [.int s1, .int s0], σ) (fun v s => v = some (.int r) ∧ s = σ2) := by
  unfold j_setOf_113_b24 at h
  refine Rc.blk (c := []) (s2 := (4, [(2, .int (v2 + 1)), (1, .int (s0 ||| s1)), (0, .ref 113)], [], σ)) 5 rfl rfl (trivial) ?_
  refine Rc.pick [2, 1, 0] (lv2 := [(0, .ref 113), (1, .int (s0 ||| s1)), (2, .int (v2 + 1))]) rfl ?_
  exact hk4 _ _ _ _ _ h
theorem j_setOf_113_H4_ok {d : Nat} (hd : 0 ≤ d) {k4 : Int32 → Int32 → Sg → Option (Int32 × Sg)} (hk4 : ∀ (v1 : Int32) (v2 : Int32) (σ : Sg) (r : Int32) (σ2 : Sg), k4 v1 v2 σ = some (r, σ2) → Rc none (Ev MT CT d) sg113 (4, [(0, .ref 113), (1, .int v1), (2, .int v2)], [], σ) (fun v s => v = some (.int r) ∧ s = σ2)) (v1 : Int32) (v2 : Int32) (σ : Sg) (r : Int32) (σ2 : Sg) (h : j_setOf_113_H4 k4 v1 v2 σ = some (r, σ2)) : Rc none (Ev MT CT d) sg113 (4, [(0, .ref 113), (1, .int v1), (2, .int v2)], [], σ) (fun v s => v = some (.int r) ∧ s = σ2) := by
  unfold j_setOf_113_H4 at h
  refine Rc.blk (c := [_]) (s2 := (if 8 ≤ v2 then 32 else 10, [(0, .ref 113), (1, .int v1), (2, .int v2)], [], σ)) 1 rfl rfl (conj_c ((by decide)) (trivial)) ?_
  by_cases c3 : 8 ≤ v2
  · rw [if_pos c3] at h
    refine Rc.ifp c3 ?_
    refine Rc.blk (c := []) (s2 := (33, [(0, .ref 113), (1, .int v1), (2, .int v2)], [.int v1], σ)) 6 rfl rfl (trivial) ?_
    obtain ⟨rfl, rfl⟩ := some_pair h
    exact Rc.ret 7 rfl rfl rfl trivial ⟨rfl, rfl⟩
  · rw [if_neg c3] at h
    refine Rc.ifn c3 ?_
    obtain ⟨g1, h⟩ := gd_some h
    refine Rc.blk (c := [_]) (s2 := (if (σ.1 113 v2.toNatClampNeg) = 0 then 23 else 17, [(0, .ref 113), (1, .int v1), (2, .int v2)], [.int v1], σ)) 2 rfl rfl (conj_c (⟨rfl, inB_in g1⟩) (trivial)) ?_
    by_cases c2 : (σ.1 113 v2.toNatClampNeg) = 0
    · rw [if_pos c2] at h
      refine Rc.ifp c2 ?_
      refine Rc.blk (c := []) (s2 := (24, [(0, .ref 113), (1, .int v1), (2, .int v2)], [.int 0, .int v1], σ)) 4 rfl rfl (trivial) ?_
      refine Rc.pick [0, 2] (lv2 := [(0, .ref 113), (2, .int v2)]) rfl ?_
      exact j_setOf_113_b24_ok hd hk4 _ _ _ _ _ _ h
    · rw [if_neg c2] at h
      refine Rc.ifn c2 ?_
      refine Rc.blk (c := []) (s2 := (24, [(0, .ref 113), (1, .int v1), (2, .int v2)], [.int ((1 : Int32) <<< (v2 &&& 31)), .int v1], σ)) 3 rfl rfl (trivial) ?_
      refine Rc.pick [0, 2] (lv2 := [(0, .ref 113), (2, .int v2)]) rfl ?_
      exact j_setOf_113_b24_ok hd hk4 _ _ _ _ _ _ h
theorem j_setOf_113_L4_ok {d : Nat} (hd : 0 ≤ d) : ∀ (n : Nat) (v1 : Int32) (v2 : Int32) (σ : Sg) (r : Int32) (σ2 : Sg), j_setOf_113_L4 n v1 v2 σ = some (r, σ2) → Rc none (Ev MT CT d) sg113 (4, [(0, .ref 113), (1, .int v1), (2, .int v2)], [], σ) (fun v s => v = some (.int r) ∧ s = σ2)
  | 0, _, _, _, _, _, h => by cases h
  | n + 1, v1, v2, σ, r, σ2, h => j_setOf_113_H4_ok hd (j_setOf_113_L4_ok hd n) v1 v2 σ r σ2 h
theorem j_setOf_113_ok {d : Nat} (hd : 1 ≤ d) {σ : Sg} {r : Int32} {σ2 : Sg} (h : j_setOf_113 σ = some (r, σ2)) : Ev MT CT d 113 [.ref 113] σ (fun v s => v = some (.int r) ∧ s = σ2) := by
  obtain ⟨d, rfl⟩ : ∃ e, d = e + 1 := ⟨d - 1, by omega⟩
  refine ⟨Nat.le_of_ble_eq_true rfl, ?_⟩
  show Rc none (Ev MT CT d) sg113 (0, [(0, .ref 113)], [], σ) _
  unfold j_setOf_113 at h
  have hd : 0 ≤ d := by omega
  refine Rc.blk (c := []) (s2 := (4, [(2, .int 0), (1, .int 0), (0, .ref 113)], [], σ)) 0 rfl rfl (trivial) ?_
  refine Rc.pick [2, 1, 0] (lv2 := [(0, .ref 113), (1, .int 0), (2, .int 0)]) rfl ?_
  exact j_setOf_113_L4_ok hd fu _ _ _ _ _ h
theorem j_alike_0_b78_ok {d : Nat} (hd : 3 ≤ d) {k21 : Int32 → Int32 → Sg → Option (Int32 × Sg)} (hk21 : ∀ (v1 : Int32) (v2 : Int32) (σ : Sg) (r : Int32) (σ2 : Sg), k21 v1 v2 σ = some (r, σ2) → Rc none (Ev MT CT d) sg76 (21, [(0, .ref 0), (1, .int v1), (2, .int v2)], [], σ) (fun v s => v = some (.int r) ∧ s = σ2)) (v1 : Int32) (v2 : Int32) (σ : Sg) (r : Int32) (σ2 : Sg) (h : j_alike_0_b78 k21 v1 v2 σ = some (r, σ2)) : Rc none (Ev MT CT d) sg76 (78, [(0, .ref 0), (1, .int v1), (2, .int v2)], [], σ) (fun v s => v = some (.int r) ∧ s = σ2) := by
  unfold j_alike_0_b78 at h
  refine Rc.blk (c := []) (s2 := (21, [(2, .int (v2 + 1)), (0, .ref 0), (1, .int v1)], [], σ)) 15 rfl rfl (trivial) ?_
  refine Rc.pick [1, 2, 0] (lv2 := [(0, .ref 0), (1, .int v1), (2, .int (v2 + 1))]) rfl ?_
  exact hk21 _ _ _ _ _ h
theorem j_alike_0_H21_ok {d : Nat} (hd : 3 ≤ d) {k21 : Int32 → Int32 → Sg → Option (Int32 × Sg)} (hk21 : ∀ (v1 : Int32) (v2 : Int32) (σ : Sg) (r : Int32) (σ2 : Sg), k21 v1 v2 σ = some (r, σ2) → Rc none (Ev MT CT d) sg76 (21, [(0, .ref 0), (1, .int v1), (2, .int v2)], [], σ) (fun v s => v = some (.int r) ∧ s = σ2)) (v1 : Int32) (v2 : Int32) (σ : Sg) (r : Int32) (σ2 : Sg) (h : j_alike_0_H21 k21 v1 v2 σ = some (r, σ2)) : Rc none (Ev MT CT d) sg76 (21, [(0, .ref 0), (1, .int v1), (2, .int v2)], [], σ) (fun v s => v = some (.int r) ∧ s = σ2) := by
  unfold j_alike_0_H21 at h
  refine Rc.blk (c := []) (s2 := (if v1 ≤ v2 then 84 else 26, [(0, .ref 0), (1, .int v1), (2, .int v2)], [], σ)) 1 rfl rfl (trivial) ?_
  by_cases c8 : v1 ≤ v2
  · rw [if_pos c8] at h
    refine Rc.ifp c8 ?_
    refine Rc.blk (c := []) (s2 := (86, [(0, .ref 0), (1, .int v1), (2, .int v2)], [.int (-9)], σ)) 16 rfl rfl (trivial) ?_
    obtain ⟨rfl, rfl⟩ := some_pair h
    exact Rc.ret 17 rfl rfl rfl trivial ⟨rfl, rfl⟩
  · rw [if_neg c8] at h
    refine Rc.ifn c8 ?_
    refine Rc.blk (c := [_, _, _]) (s2 := (38, [(0, .ref 0), (1, .int v1), (2, .int v2)], [.int v2, .ref 51, .ref 62], σ)) 2 rfl rfl (conj_c (rfl) (conj_c (rfl) (conj_c (rfl) (trivial)))) ?_
    obtain ⟨r1, σ1, hc, h⟩ := bd_some h
    refine Rc.call (Ev.mono d) (v := some (.int r1)) (as := [.ref 51, .int v2]) (r := [.ref 62]) 3 rfl rfl rfl rfl ⟨rfl, Nat.le_of_ble_eq_true rfl⟩ (j_looseAt_51_ok (by omega) hc) ?_
    show Rc _ _ _ (41, [(0, .ref 0), (1, .int v1), (2, .int v2)], [.int r1, .ref 62], σ1) _
    refine Rc.blk (c := [_]) (s2 := (45, [(0, .ref 0), (1, .int v1), (2, .int v2)], [.ref 113, .int r1, .ref 62], σ1)) 4 rfl rfl (conj_c (rfl) (trivial)) ?_
    obtain ⟨r2, σ2, hc, h⟩ := bd_some h
    refine Rc.call (Ev.mono d) (v := none) (as := [.ref 62, .int r1, .ref 113]) (r := []) 5 rfl rfl rfl rfl ⟨rfl, Nat.le_of_ble_eq_true rfl⟩ (j_relation_62_113_ok (by omega) hc) ?_
    show Rc _ _ _ (48, [(0, .ref 0), (1, .int v1), (2, .int v2)], [], σ2) _
    refine Rc.blk (c := [_, _]) (s2 := (56, [(0, .ref 0), (1, .int v1), (2, .int v2)], [.ref 113, .ref 1], σ2)) 6 rfl rfl (conj_c (rfl) (conj_c (rfl) (trivial))) ?_
    obtain ⟨r3, σ3, hc, h⟩ := bd_some h
    refine Rc.call (Ev.mono d) (v := some (.int r3)) (as := [.ref 113]) (r := [.ref 1]) 7 rfl rfl rfl rfl (Nat.le_of_ble_eq_true rfl) (j_setOf_113_ok (by omega) hc) ?_
    show Rc _ _ _ (59, [(0, .ref 0), (1, .int v1), (2, .int v2)], [.int r3, .ref 1], σ3) _
    obtain ⟨r4, σ4, hc, h⟩ := bd_some h
    refine Rc.call (Ev.mono d) (v := some (.int r4)) (as := [.ref 1, .int r3]) (r := []) 8 rfl rfl rfl rfl ⟨rfl, Nat.le_of_ble_eq_true rfl⟩ (j_haveScales_1_ok (by omega) hc) ?_
    show Rc _ _ _ (62, [(0, .ref 0), (1, .int v1), (2, .int v2)], [.int r4], σ4) _
    refine Rc.blk (c := []) (s2 := (if r4 = 0 then 78 else 65, [(0, .ref 0), (1, .int v1), (2, .int v2)], [], σ4)) 9 rfl rfl (trivial) ?_
    by_cases c7 : r4 = 0
    · rw [if_pos c7] at h
      refine Rc.ifp c7 ?_
      exact j_alike_0_b78_ok hd hk21 _ _ _ _ _ h
    · rw [if_neg c7] at h
      refine Rc.ifn c7 ?_
      refine Rc.blk (c := [_]) (s2 := (70, [(0, .ref 0), (1, .int v1), (2, .int v2)], [.ref 113, .ref 0], σ4)) 10 rfl rfl (conj_c (rfl) (trivial)) ?_
      obtain ⟨r5, σ5, hc, h⟩ := bd_some h
      refine Rc.call (Ev.mono d) (v := some (.int r5)) (as := [.ref 0, .ref 113]) (r := []) 11 rfl rfl rfl rfl ⟨rfl, Nat.le_of_ble_eq_true rfl⟩ (j_isUnbalanced_0_113_ok (by omega) hc) ?_
      show Rc _ _ _ (73, [(0, .ref 0), (1, .int v1), (2, .int v2)], [.int r5], σ5) _
      refine Rc.blk (c := []) (s2 := (if r5 = 0 then 78 else 76, [(0, .ref 0), (1, .int v1), (2, .int v2)], [], σ5)) 12 rfl rfl (trivial) ?_
      by_cases c6 : r5 = 0
      · rw [if_pos c6] at h
        refine Rc.ifp c6 ?_
        exact j_alike_0_b78_ok hd hk21 _ _ _ _ _ h
      · rw [if_neg c6] at h
        refine Rc.ifn c6 ?_
        refine Rc.blk (c := []) (s2 := (77, [(0, .ref 0), (1, .int v1), (2, .int v2)], [.int v2], σ5)) 13 rfl rfl (trivial) ?_
        obtain ⟨rfl, rfl⟩ := some_pair h
        exact Rc.ret 14 rfl rfl rfl trivial ⟨rfl, rfl⟩
theorem j_alike_0_L21_ok {d : Nat} (hd : 3 ≤ d) : ∀ (n : Nat) (v1 : Int32) (v2 : Int32) (σ : Sg) (r : Int32) (σ2 : Sg), j_alike_0_L21 n v1 v2 σ = some (r, σ2) → Rc none (Ev MT CT d) sg76 (21, [(0, .ref 0), (1, .int v1), (2, .int v2)], [], σ) (fun v s => v = some (.int r) ∧ s = σ2)
  | 0, _, _, _, _, _, h => by cases h
  | n + 1, v1, v2, σ, r, σ2, h => j_alike_0_H21_ok hd (j_alike_0_L21_ok hd n) v1 v2 σ r σ2 h
theorem j_alike_0_ok {d : Nat} (hd : 4 ≤ d) {σ : Sg} {r : Int32} {σ2 : Sg} (h : j_alike_0 σ = some (r, σ2)) : Ev MT CT d 76 [.ref 0] σ (fun v s => v = some (.int r) ∧ s = σ2) := by
  obtain ⟨d, rfl⟩ : ∃ e, d = e + 1 := ⟨d - 1, by omega⟩
  refine ⟨Nat.le_of_ble_eq_true rfl, ?_⟩
  show Rc none (Ev MT CT d) sg76 (0, [(0, .ref 0)], [], σ) _
  unfold j_alike_0 at h
  have hd : 3 ≤ d := by omega
  refine Rc.blk (c := [_, _, _, _, _]) (s2 := (21, [(2, .int 0), (1, .int ((σ.1 51 0) - (σ.1 62 3))), (0, .ref 0)], [], σ)) 0 rfl rfl (conj_c (rfl) (conj_c (rfl) (conj_c (rfl) (conj_c (rfl) (conj_c (rfl) (trivial)))))) ?_
  refine Rc.pick [2, 1, 0] (lv2 := [(0, .ref 0), (1, .int ((σ.1 51 0) - (σ.1 62 3))), (2, .int 0)]) rfl ?_
  exact j_alike_0_L21_ok hd fu _ _ _ _ _ h
theorem j_isPrime_s_H9_ok {d : Nat} (hd : 0 ≤ d) {k9 : Int32 → Int32 → Int32 → Sg → Option (Int32 × Sg)} (hk9 : ∀ (v0 : Int32) (v2 : Int32) (v3 : Int32) (σ : Sg) (r : Int32) (σ2 : Sg), k9 v0 v2 v3 σ = some (r, σ2) → Rc none (Ev MT CT d) sg103 (9, [(0, .int v0), (1, .ref 1004), (2, .int v2), (3, .int v3)], [], σ) (fun v s => v = some (.int r) ∧ s = σ2)) (v0 : Int32) (v2 : Int32) (v3 : Int32) (σ : Sg) (r : Int32) (σ2 : Sg) (h : j_isPrime_s_H9 k9 v0 v2 v3 σ = some (r, σ2)) : Rc none (Ev MT CT d) sg103 (9, [(0, .int v0), (1, .ref 1004), (2, .int v2), (3, .int v3)], [], σ) (fun v s => v = some (.int r) ∧ s = σ2) := by
  unfold j_isPrime_s_H9 at h
  refine Rc.blk (c := []) (s2 := (if v2 ≤ v3 then 33 else 14, [(0, .int v0), (1, .ref 1004), (2, .int v2), (3, .int v3)], [], σ)) 1 rfl rfl (trivial) ?_
  by_cases c3 : v2 ≤ v3
  · rw [if_pos c3] at h
    refine Rc.ifp c3 ?_
    refine Rc.blk (c := []) (s2 := (34, [(0, .int v0), (1, .ref 1004), (2, .int v2), (3, .int v3)], [.int 0], σ)) 6 rfl rfl (trivial) ?_
    obtain ⟨rfl, rfl⟩ := some_pair h
    exact Rc.ret 7 rfl rfl rfl (Or.inl rfl) ⟨rfl, rfl⟩
  · rw [if_neg c3] at h
    refine Rc.ifn c3 ?_
    obtain ⟨g1, h⟩ := gd_some h
    refine Rc.blk (c := [_]) (s2 := (if ¬ (sv 1004 v3.toNatClampNeg) = v0 then 27 else 25, [(4, .int (sv 1004 v3.toNatClampNeg)), (0, .int v0), (1, .ref 1004), (2, .int v2), (3, .int v3)], [], σ)) 2 rfl rfl (conj_c (⟨by decide, inB_in g1⟩) (trivial)) ?_
    by_cases c2 : (sv 1004 v3.toNatClampNeg) = v0
    · rw [if_pos c2] at h
      refine Rc.ifn (fun q => q c2) ?_
      refine Rc.blk (c := []) (s2 := (26, [(4, .int (sv 1004 v3.toNatClampNeg)), (0, .int v0), (1, .ref 1004), (2, .int v2), (3, .int v3)], [.int 1], σ)) 3 rfl rfl (trivial) ?_
      obtain ⟨rfl, rfl⟩ := some_pair h
      exact Rc.ret 4 rfl rfl rfl (Or.inr rfl) ⟨rfl, rfl⟩
    · rw [if_neg c2] at h
      refine Rc.ifp c2 ?_
      refine Rc.blk (c := []) (s2 := (9, [(3, .int (v3 + 1)), (4, .int (sv 1004 v3.toNatClampNeg)), (0, .int v0), (1, .ref 1004), (2, .int v2)], [], σ)) 5 rfl rfl (trivial) ?_
      refine Rc.pick [2, 3, 4, 0] (lv2 := [(0, .int v0), (1, .ref 1004), (2, .int v2), (3, .int (v3 + 1))]) rfl ?_
      exact hk9 _ _ _ _ _ _ h
theorem j_isPrime_s_L9_ok {d : Nat} (hd : 0 ≤ d) : ∀ (n : Nat) (v0 : Int32) (v2 : Int32) (v3 : Int32) (σ : Sg) (r : Int32) (σ2 : Sg), j_isPrime_s_L9 n v0 v2 v3 σ = some (r, σ2) → Rc none (Ev MT CT d) sg103 (9, [(0, .int v0), (1, .ref 1004), (2, .int v2), (3, .int v3)], [], σ) (fun v s => v = some (.int r) ∧ s = σ2)
  | 0, _, _, _, _, _, _, h => by cases h
  | n + 1, v0, v2, v3, σ, r, σ2, h => j_isPrime_s_H9_ok hd (j_isPrime_s_L9_ok hd n) v0 v2 v3 σ r σ2 h
theorem j_isPrime_s_ok {d : Nat} (hd : 1 ≤ d) {v0 : Int32} {σ : Sg} {r : Int32} {σ2 : Sg} (h : j_isPrime_s v0 σ = some (r, σ2)) : Ev MT CT d 103 [.int v0] σ (fun v s => v = some (.int r) ∧ s = σ2) := by
  obtain ⟨d, rfl⟩ : ∃ e, d = e + 1 := ⟨d - 1, by omega⟩
  refine ⟨Nat.le_of_ble_eq_true rfl, ?_⟩
  show Rc none (Ev MT CT d) sg103 (0, [(0, .int v0)], [], σ) _
  unfold j_isPrime_s at h
  have hd : 0 ≤ d := by omega
  refine Rc.blk (c := [_]) (s2 := (9, [(3, .int 0), (2, .int 25), (1, .ref 1004), (0, .int v0)], [], σ)) 0 rfl rfl (conj_c ((by decide)) (trivial)) ?_
  refine Rc.pick [3, 2, 1, 0] (lv2 := [(0, .int v0), (1, .ref 1004), (2, .int 25), (3, .int 0)]) rfl ?_
  exact j_isPrime_s_L9_ok hd fu _ _ _ _ _ _ h
theorem j_must_0_b30_ok {d : Nat} (hd : 3 ≤ d) (σ : Sg) (r : Int64) (σ2 : Sg) (h : j_must_0_b30 σ = some (r, σ2)) : Rc none (Ev MT CT d) sg77 (30, [(0, .ref 0)], [], σ) (fun v s => v = some (.long r) ∧ s = σ2) := by
  unfold j_must_0_b30 at h
  refine Rc.blk (c := []) (s2 := (33, [(0, .ref 0)], [.int (-2), .ref 0], σ)) 12 rfl rfl (trivial) ?_
  obtain ⟨r1, σ1, hc, h⟩ := bd_some h
  refine Rc.call (Ev.mono d) (v := some (.long r1)) (as := [.ref 0, .int (-2)]) (r := []) 13 rfl rfl rfl rfl ⟨rfl, Nat.le_of_ble_eq_true rfl⟩ (j_refusedFarLong_0_ok (by omega) hc) ?_
  show Rc _ _ _ (36, [(0, .ref 0)], [.long r1], σ1) _
  obtain ⟨rfl, rfl⟩ := some_pair h
  exact Rc.ret 14 rfl rfl rfl trivial ⟨rfl, rfl⟩
theorem j_must_0_b59_ok {d : Nat} (hd : 3 ≤ d) (σ : Sg) (r : Int64) (σ2 : Sg) (h : j_must_0_b59 σ = some (r, σ2)) : Rc none (Ev MT CT d) sg77 (59, [(0, .ref 0)], [], σ) (fun v s => v = some (.long r) ∧ s = σ2) := by
  unfold j_must_0_b59 at h
  refine Rc.blk (c := []) (s2 := (62, [(0, .ref 0)], [.int (-3), .ref 0], σ)) 21 rfl rfl (trivial) ?_
  obtain ⟨r1, σ1, hc, h⟩ := bd_some h
  refine Rc.call (Ev.mono d) (v := some (.long r1)) (as := [.ref 0, .int (-3)]) (r := []) 22 rfl rfl rfl rfl ⟨rfl, Nat.le_of_ble_eq_true rfl⟩ (j_refusedFarLong_0_ok (by omega) hc) ?_
  show Rc _ _ _ (65, [(0, .ref 0)], [.long r1], σ1) _
  obtain ⟨rfl, rfl⟩ := some_pair h
  exact Rc.ret 23 rfl rfl rfl trivial ⟨rfl, rfl⟩
theorem j_must_0_ok {d : Nat} (hd : 4 ≤ d) {v1 : Int32} {v2 : Int32} {v3 : Int32} {v4 : Int32} {σ : Sg} {r : Int64} {σ2 : Sg} (h : j_must_0 v1 v2 v3 v4 σ = some (r, σ2)) : Ev MT CT d 77 [.ref 0, .int v1, .int v2, .int v3, .int v4] σ (fun v s => v = some (.long r) ∧ s = σ2) := by
  obtain ⟨d, rfl⟩ : ∃ e, d = e + 1 := ⟨d - 1, by omega⟩
  refine ⟨Nat.le_of_ble_eq_true rfl, ?_⟩
  show Rc none (Ev MT CT d) sg77 (0, [(0, .ref 0), (1, .int v1), (2, .int v2), (3, .int v3), (4, .int v4)], [], σ) _
  unfold j_must_0 at h
  have hd : 3 ≤ d := by omega
  refine Rc.blk (c := []) (s2 := (3, [(0, .ref 0), (1, .int v1), (2, .int v2), (3, .int v3), (4, .int v4)], [.int v2, .int v1, .ref 0], σ)) 0 rfl rfl (trivial) ?_
  obtain ⟨r1, σ1, hc, h⟩ := bd_some h
  refine Rc.call (Ev.mono d) (v := some (.int r1)) (as := [.ref 0, .int v1, .int v2]) (r := []) 1 rfl rfl rfl rfl ⟨rfl, Nat.le_of_ble_eq_true rfl⟩ (j_isOutside_0_ok (by omega) hc) ?_
  show Rc _ _ _ (6, [(0, .ref 0), (1, .int v1), (2, .int v2), (3, .int v3), (4, .int v4)], [.int r1], σ1) _
  refine Rc.blk (c := []) (s2 := (if ¬ r1 = 0 then 15 else 9, [(0, .ref 0), (1, .int v1), (2, .int v2), (3, .int v3), (4, .int v4)], [], σ1)) 2 rfl rfl (trivial) ?_
  by_cases c15 : r1 = 0
  · rw [if_pos c15] at h
    refine Rc.ifn (fun q => q c15) ?_
    refine Rc.blk (c := []) (s2 := (11, [(0, .ref 0), (1, .int v1), (2, .int v2), (3, .int v3), (4, .int v4)], [.int (-1), .ref 0], σ1)) 3 rfl rfl (trivial) ?_
    obtain ⟨r14, σ14, hc, h⟩ := bd_some h
    refine Rc.call (Ev.mono d) (v := some (.long r14)) (as := [.ref 0, .int (-1)]) (r := []) 4 rfl rfl rfl rfl ⟨rfl, Nat.le_of_ble_eq_true rfl⟩ (j_refusedFarLong_0_ok (by omega) hc) ?_
    show Rc _ _ _ (14, [(0, .ref 0), (1, .int v1), (2, .int v2), (3, .int v3), (4, .int v4)], [.long r14], σ14) _
    obtain ⟨rfl, rfl⟩ := some_pair h
    exact Rc.ret 5 rfl rfl rfl trivial ⟨rfl, rfl⟩
  · rw [if_neg c15] at h
    refine Rc.ifp c15 ?_
    refine Rc.blk (c := []) (s2 := (16, [(0, .ref 0), (1, .int v1), (2, .int v2), (3, .int v3), (4, .int v4)], [.int v3], σ1)) 6 rfl rfl (trivial) ?_
    obtain ⟨r2, σ2, hc, h⟩ := bd_some h
    refine Rc.call (Ev.mono d) (v := some (.int r2)) (as := [.int v3]) (r := []) 7 rfl rfl rfl rfl (Nat.le_of_ble_eq_true rfl) (j_isPrime_s_ok (by omega) hc) ?_
    show Rc _ _ _ (19, [(0, .ref 0), (1, .int v1), (2, .int v2), (3, .int v3), (4, .int v4)], [.int r2], σ2) _
    refine Rc.blk (c := []) (s2 := (if r2 = 0 then 30 else 22, [(0, .ref 0), (1, .int v1), (2, .int v2), (3, .int v3), (4, .int v4)], [], σ2)) 8 rfl rfl (trivial) ?_
    by_cases c13 : r2 = 0
    · rw [if_pos c13] at h
      refine Rc.ifp c13 ?_
      refine Rc.pick [0] (lv2 := [(0, .ref 0)]) rfl ?_
      exact j_must_0_b30_ok hd _ _ _ h
    · rw [if_neg c13] at h
      refine Rc.ifn c13 ?_
      refine Rc.blk (c := []) (s2 := (24, [(0, .ref 0), (1, .int v1), (2, .int v2), (3, .int v3), (4, .int v4)], [.int v4], σ2)) 9 rfl rfl (trivial) ?_
      obtain ⟨r3, σ3, hc, h⟩ := bd_some h
      refine Rc.call (Ev.mono d) (v := some (.int r3)) (as := [.int v4]) (r := []) 10 rfl rfl rfl rfl (Nat.le_of_ble_eq_true rfl) (j_isPart_s_ok (by omega) hc) ?_
      show Rc _ _ _ (27, [(0, .ref 0), (1, .int v1), (2, .int v2), (3, .int v3), (4, .int v4)], [.int r3], σ3) _
      refine Rc.blk (c := []) (s2 := (if ¬ r3 = 0 then 37 else 30, [(0, .ref 0), (1, .int v1), (2, .int v2), (3, .int v3), (4, .int v4)], [], σ3)) 11 rfl rfl (trivial) ?_
      by_cases c12 : r3 = 0
      · rw [if_pos c12] at h
        refine Rc.ifn (fun q => q c12) ?_
        refine Rc.pick [0] (lv2 := [(0, .ref 0)]) rfl ?_
        exact j_must_0_b30_ok hd _ _ _ h
      · rw [if_neg c12] at h
        refine Rc.ifp c12 ?_
        refine Rc.blk (c := [_]) (s2 := (42, [(0, .ref 0), (1, .int v1), (2, .int v2), (3, .int v3), (4, .int v4)], [.int v1, .ref 70], σ3)) 15 rfl rfl (conj_c (rfl) (trivial)) ?_
        obtain ⟨r4, σ4, hc, h⟩ := bd_some h
        refine Rc.call (Ev.mono d) (v := some (.int r4)) (as := [.ref 70, .int v1]) (r := []) 16 rfl rfl rfl rfl ⟨rfl, Nat.le_of_ble_eq_true rfl⟩ (j_choose_70_ok (by omega) hc) ?_
        show Rc _ _ _ (45, [(0, .ref 0), (1, .int v1), (2, .int v2), (3, .int v3), (4, .int v4)], [.int r4], σ4) _
        refine Rc.blk (c := []) (s2 := (if r4 = 0 then 59 else 48, [(0, .ref 0), (1, .int v1), (2, .int v2), (3, .int v3), (4, .int v4)], [], σ4)) 17 rfl rfl (trivial) ?_
        by_cases c11 : r4 = 0
        · rw [if_pos c11] at h
          refine Rc.ifp c11 ?_
          refine Rc.pick [0] (lv2 := [(0, .ref 0)]) rfl ?_
          exact j_must_0_b59_ok hd _ _ _ h
        · rw [if_neg c11] at h
          refine Rc.ifn c11 ?_
          refine Rc.blk (c := [_]) (s2 := (53, [(0, .ref 0), (1, .int v1), (2, .int v2), (3, .int v3), (4, .int v4)], [.int v1, .ref 1], σ4)) 18 rfl rfl (conj_c (rfl) (trivial)) ?_
          obtain ⟨r5, σ5, hc, h⟩ := bd_some h
          refine Rc.call (Ev.mono d) (v := some (.int r5)) (as := [.ref 1, .int v1]) (r := []) 19 rfl rfl rfl rfl ⟨rfl, Nat.le_of_ble_eq_true rfl⟩ (j_haveScales_1_ok (by omega) hc) ?_
          show Rc _ _ _ (56, [(0, .ref 0), (1, .int v1), (2, .int v2), (3, .int v3), (4, .int v4)], [.int r5], σ5) _
          refine Rc.blk (c := []) (s2 := (if ¬ r5 = 0 then 66 else 59, [(0, .ref 0), (1, .int v1), (2, .int v2), (3, .int v3), (4, .int v4)], [], σ5)) 20 rfl rfl (trivial) ?_
          by_cases c10 : r5 = 0
          · rw [if_pos c10] at h
            refine Rc.ifn (fun q => q c10) ?_
            refine Rc.pick [0] (lv2 := [(0, .ref 0)]) rfl ?_
            exact j_must_0_b59_ok hd _ _ _ h
          · rw [if_neg c10] at h
            refine Rc.ifp c10 ?_
            refine Rc.blk (c := [_, _, _]) (s2 := (78, [(0, .ref 0), (1, .int v1), (2, .int v2), (3, .int v3), (4, .int v4)], [.ref 113, .int v2, .ref 71], σ5)) 24 rfl rfl (conj_c (rfl) (conj_c (rfl) (conj_c (rfl) (trivial)))) ?_
            obtain ⟨r6, σ6, hc, h⟩ := bd_some h
            refine Rc.call (Ev.mono d) (v := none) (as := [.ref 71, .int v2, .ref 113]) (r := []) 25 rfl rfl rfl rfl ⟨rfl, Nat.le_of_ble_eq_true rfl⟩ (j_relation_71_113_ok (by omega) hc) ?_
            show Rc _ _ _ (81, [(0, .ref 0), (1, .int v1), (2, .int v2), (3, .int v3), (4, .int v4)], [], σ6) _
            refine Rc.blk (c := [_, _]) (s2 := (91, [(0, .ref 0), (1, .int v1), (2, .int v2), (3, .int v3), (4, .int v4)], [.int v3, .int v1, .ref 113, .ref 1], σ6)) 26 rfl rfl (conj_c (rfl) (conj_c (rfl) (trivial))) ?_
            obtain ⟨r7, σ7, hc, h⟩ := bd_some h
            refine Rc.call (Ev.mono d) (v := some (.long r7)) (as := [.ref 1, .ref 113, .int v1, .int v3]) (r := []) 27 rfl rfl rfl rfl ⟨rfl, Nat.le_of_ble_eq_true rfl⟩ (j_together_1_113_ok (by omega) hc) ?_
            show Rc _ _ _ (94, [(0, .ref 0), (1, .int v1), (2, .int v2), (3, .int v3), (4, .int v4)], [.long r7], σ7) _
            obtain ⟨g8, h⟩ := gd_some h
            refine Rc.blk (c := [_, _]) (s2 := (104, [(0, .ref 0), (1, .int v1), (2, .int v2), (3, .int v3), (4, .int v4)], [.int v4, .long ((σ7.1 113 v2.toNatClampNeg).toInt64), .long (-r7)], σ7)) 28 rfl rfl (conj_c (rfl) (conj_c (⟨rfl, inB_in g8⟩) (trivial))) ?_
            obtain ⟨r9, σ9, hc, h⟩ := bd_some h
            refine Rc.call (Ev.mono d) (v := some (.long r9)) (as := [.long (-r7), .long ((σ7.1 113 v2.toNatClampNeg).toInt64), .int v4]) (r := []) 29 rfl rfl rfl rfl (Nat.le_of_ble_eq_true rfl) (j_partOf_s_ok (by omega) hc) ?_
            show Rc _ _ _ (107, [(0, .ref 0), (1, .int v1), (2, .int v2), (3, .int v3), (4, .int v4)], [.long r9], σ9) _
            obtain ⟨rfl, rfl⟩ := some_pair h
            exact Rc.ret 30 rfl rfl rfl trivial ⟨rfl, rfl⟩
theorem j_whole_0_b37_ok {d : Nat} (hd : 3 ≤ d) (σ : Sg) (r : Int32) (σ2 : Sg) (h : j_whole_0_b37 σ = some (r, σ2)) : Rc none (Ev MT CT d) sg78 (37, [(0, .ref 0)], [], σ) (fun v s => v = some (.int r) ∧ s = σ2) := by
  unfold j_whole_0_b37 at h
  refine Rc.blk (c := []) (s2 := (40, [(0, .ref 0)], [.int (-3), .ref 0], σ)) 12 rfl rfl (trivial) ?_
  obtain ⟨r1, σ1, hc, h⟩ := bd_some h
  refine Rc.call (Ev.mono d) (v := some (.int r1)) (as := [.ref 0, .int (-3)]) (r := []) 13 rfl rfl rfl rfl ⟨rfl, Nat.le_of_ble_eq_true rfl⟩ (j_refused_0_ok (by omega) hc) ?_
  show Rc _ _ _ (43, [(0, .ref 0)], [.int r1], σ1) _
  obtain ⟨rfl, rfl⟩ := some_pair h
  exact Rc.ret 14 rfl rfl rfl trivial ⟨rfl, rfl⟩
theorem j_whole_0_H70_ok {d : Nat} (hd : 3 ≤ d) {k70 : Int32 → Int32 → Int32 → Int32 → Sg → Option (Int32 × Sg)} (hk70 : ∀ (v1 : Int32) (v2 : Int32) (v4 : Int32) (v5 : Int32) (σ : Sg) (r : Int32) (σ2 : Sg), k70 v1 v2 v4 v5 σ = some (r, σ2) → Rc none (Ev MT CT d) sg78 (70, [(0, .ref 0), (1, .int v1), (2, .int v2), (3, .ref 1004), (4, .int v4), (5, .int v5)], [], σ) (fun v s => v = some (.int r) ∧ s = σ2)) (v1 : Int32) (v2 : Int32) (v4 : Int32) (v5 : Int32) (σ : Sg) (r : Int32) (σ2 : Sg) (h : j_whole_0_H70 k70 v1 v2 v4 v5 σ = some (r, σ2)) : Rc none (Ev MT CT d) sg78 (70, [(0, .ref 0), (1, .int v1), (2, .int v2), (3, .ref 1004), (4, .int v4), (5, .int v5)], [], σ) (fun v s => v = some (.int r) ∧ s = σ2) := by
  unfold j_whole_0_H70 at h
  refine Rc.blk (c := []) (s2 := (if v4 ≤ v5 then 121 else 77, [(0, .ref 0), (1, .int v1), (2, .int v2), (3, .ref 1004), (4, .int v4), (5, .int v5)], [], σ)) 18 rfl rfl (trivial) ?_
  by_cases c6 : v4 ≤ v5
  · rw [if_pos c6] at h
    refine Rc.ifp c6 ?_
    refine Rc.blk (c := []) (s2 := (122, [(0, .ref 0), (1, .int v1), (2, .int v2), (3, .ref 1004), (4, .int v4), (5, .int v5)], [.int 1], σ)) 27 rfl rfl (trivial) ?_
    obtain ⟨rfl, rfl⟩ := some_pair h
    exact Rc.ret 28 rfl rfl rfl trivial ⟨rfl, rfl⟩
  · rw [if_neg c6] at h
    refine Rc.ifn c6 ?_
    obtain ⟨g1, h⟩ := gd_some h
    refine Rc.blk (c := [_, _, _]) (s2 := (94, [(6, .int (sv 1004 v5.toNatClampNeg)), (0, .ref 0), (1, .int v1), (2, .int v2), (3, .ref 1004), (4, .int v4), (5, .int v5)], [.int (sv 1004 v5.toNatClampNeg), .int v1, .ref 113, .ref 1], σ)) 19 rfl rfl (conj_c (⟨by decide, inB_in g1⟩) (conj_c (rfl) (conj_c (rfl) (trivial)))) ?_
    obtain ⟨r2, σ2, hc, h⟩ := bd_some h
    refine Rc.call (Ev.mono d) (v := some (.long r2)) (as := [.ref 1, .ref 113, .int v1, .int (sv 1004 v5.toNatClampNeg)]) (r := []) 20 rfl rfl rfl rfl ⟨rfl, Nat.le_of_ble_eq_true rfl⟩ (j_together_1_113_ok (by omega) hc) ?_
    show Rc _ _ _ (97, [(6, .int (sv 1004 v5.toNatClampNeg)), (0, .ref 0), (1, .int v1), (2, .int v2), (3, .ref 1004), (4, .int v4), (5, .int v5)], [.long r2], σ2) _
    obtain ⟨g3, h⟩ := gd_some h
    refine Rc.blk (c := [_, _]) (s2 := (105, [(6, .int (sv 1004 v5.toNatClampNeg)), (0, .ref 0), (1, .int v1), (2, .int v2), (3, .ref 1004), (4, .int v4), (5, .int v5)], [.int 1, .long ((σ2.1 113 v2.toNatClampNeg).toInt64), .long r2], σ2)) 21 rfl rfl (conj_c (rfl) (conj_c (⟨rfl, inB_in g3⟩) (trivial))) ?_
    obtain ⟨r4, σ4, hc, h⟩ := bd_some h
    refine Rc.call (Ev.mono d) (v := some (.long r4)) (as := [.long r2, .long ((σ2.1 113 v2.toNatClampNeg).toInt64), .int 1]) (r := []) 22 rfl rfl rfl rfl (Nat.le_of_ble_eq_true rfl) (j_partOf_s_ok (by omega) hc) ?_
    show Rc _ _ _ (108, [(6, .int (sv 1004 v5.toNatClampNeg)), (0, .ref 0), (1, .int v1), (2, .int v2), (3, .ref 1004), (4, .int v4), (5, .int v5)], [.long r4], σ4) _
    refine Rc.blk (c := []) (s2 := (if (lg_cmp r4 1) = 0 then 115 else 113, [(6, .int (sv 1004 v5.toNatClampNeg)), (0, .ref 0), (1, .int v1), (2, .int v2), (3, .ref 1004), (4, .int v4), (5, .int v5)], [], σ4)) 23 rfl rfl (trivial) ?_
    by_cases c5 : (lg_cmp r4 1) = 0
    · rw [if_pos c5] at h
      refine Rc.ifp c5 ?_
      refine Rc.blk (c := []) (s2 := (70, [(5, .int (v5 + 1)), (6, .int (sv 1004 v5.toNatClampNeg)), (0, .ref 0), (1, .int v1), (2, .int v2), (3, .ref 1004), (4, .int v4)], [], σ4)) 26 rfl rfl (trivial) ?_
      refine Rc.pick [2, 3, 4, 5, 6, 0] (lv2 := [(0, .ref 0), (1, .int v1), (2, .int v2), (3, .ref 1004), (4, .int v4), (5, .int (v5 + 1))]) rfl ?_
      exact hk70 _ _ _ _ _ _ _ h
    · rw [if_neg c5] at h
      refine Rc.ifn c5 ?_
      refine Rc.blk (c := []) (s2 := (114, [(6, .int (sv 1004 v5.toNatClampNeg)), (0, .ref 0), (1, .int v1), (2, .int v2), (3, .ref 1004), (4, .int v4), (5, .int v5)], [.int 0], σ4)) 24 rfl rfl (trivial) ?_
      obtain ⟨rfl, rfl⟩ := some_pair h
      exact Rc.ret 25 rfl rfl rfl trivial ⟨rfl, rfl⟩
theorem j_whole_0_L70_ok {d : Nat} (hd : 3 ≤ d) : ∀ (n : Nat) (v1 : Int32) (v2 : Int32) (v4 : Int32) (v5 : Int32) (σ : Sg) (r : Int32) (σ2 : Sg), j_whole_0_L70 n v1 v2 v4 v5 σ = some (r, σ2) → Rc none (Ev MT CT d) sg78 (70, [(0, .ref 0), (1, .int v1), (2, .int v2), (3, .ref 1004), (4, .int v4), (5, .int v5)], [], σ) (fun v s => v = some (.int r) ∧ s = σ2)
  | 0, _, _, _, _, _, _, _, h => by cases h
  | n + 1, v1, v2, v4, v5, σ, r, σ2, h => j_whole_0_H70_ok hd (j_whole_0_L70_ok hd n) v1 v2 v4 v5 σ r σ2 h
theorem j_whole_0_ok {d : Nat} (hd : 4 ≤ d) {v1 : Int32} {v2 : Int32} {σ : Sg} {r : Int32} {σ2 : Sg} (h : j_whole_0 v1 v2 σ = some (r, σ2)) : Ev MT CT d 78 [.ref 0, .int v1, .int v2] σ (fun v s => v = some (.int r) ∧ s = σ2) := by
  obtain ⟨d, rfl⟩ : ∃ e, d = e + 1 := ⟨d - 1, by omega⟩
  refine ⟨Nat.le_of_ble_eq_true rfl, ?_⟩
  show Rc none (Ev MT CT d) sg78 (0, [(0, .ref 0), (1, .int v1), (2, .int v2)], [], σ) _
  unfold j_whole_0 at h
  have hd : 3 ≤ d := by omega
  refine Rc.blk (c := []) (s2 := (3, [(0, .ref 0), (1, .int v1), (2, .int v2)], [.int v2, .int v1, .ref 0], σ)) 0 rfl rfl (trivial) ?_
  obtain ⟨r1, σ1, hc, h⟩ := bd_some h
  refine Rc.call (Ev.mono d) (v := some (.int r1)) (as := [.ref 0, .int v1, .int v2]) (r := []) 1 rfl rfl rfl rfl ⟨rfl, Nat.le_of_ble_eq_true rfl⟩ (j_isOutside_0_ok (by omega) hc) ?_
  show Rc _ _ _ (6, [(0, .ref 0), (1, .int v1), (2, .int v2)], [.int r1], σ1) _
  refine Rc.blk (c := []) (s2 := (if ¬ r1 = 0 then 15 else 9, [(0, .ref 0), (1, .int v1), (2, .int v2)], [], σ1)) 2 rfl rfl (trivial) ?_
  by_cases c8 : r1 = 0
  · rw [if_pos c8] at h
    refine Rc.ifn (fun q => q c8) ?_
    refine Rc.blk (c := []) (s2 := (11, [(0, .ref 0), (1, .int v1), (2, .int v2)], [.int (-1), .ref 0], σ1)) 3 rfl rfl (trivial) ?_
    obtain ⟨r7, σ7, hc, h⟩ := bd_some h
    refine Rc.call (Ev.mono d) (v := some (.int r7)) (as := [.ref 0, .int (-1)]) (r := []) 4 rfl rfl rfl rfl ⟨rfl, Nat.le_of_ble_eq_true rfl⟩ (j_refused_0_ok (by omega) hc) ?_
    show Rc _ _ _ (14, [(0, .ref 0), (1, .int v1), (2, .int v2)], [.int r7], σ7) _
    obtain ⟨rfl, rfl⟩ := some_pair h
    exact Rc.ret 5 rfl rfl rfl trivial ⟨rfl, rfl⟩
  · rw [if_neg c8] at h
    refine Rc.ifp c8 ?_
    refine Rc.blk (c := [_]) (s2 := (20, [(0, .ref 0), (1, .int v1), (2, .int v2)], [.int v1, .ref 70], σ1)) 6 rfl rfl (conj_c (rfl) (trivial)) ?_
    obtain ⟨r2, σ2, hc, h⟩ := bd_some h
    refine Rc.call (Ev.mono d) (v := some (.int r2)) (as := [.ref 70, .int v1]) (r := []) 7 rfl rfl rfl rfl ⟨rfl, Nat.le_of_ble_eq_true rfl⟩ (j_choose_70_ok (by omega) hc) ?_
    show Rc _ _ _ (23, [(0, .ref 0), (1, .int v1), (2, .int v2)], [.int r2], σ2) _
    refine Rc.blk (c := []) (s2 := (if r2 = 0 then 37 else 26, [(0, .ref 0), (1, .int v1), (2, .int v2)], [], σ2)) 8 rfl rfl (trivial) ?_
    by_cases c6 : r2 = 0
    · rw [if_pos c6] at h
      refine Rc.ifp c6 ?_
      refine Rc.pick [0] (lv2 := [(0, .ref 0)]) rfl ?_
      exact j_whole_0_b37_ok hd _ _ _ h
    · rw [if_neg c6] at h
      refine Rc.ifn c6 ?_
      refine Rc.blk (c := [_]) (s2 := (31, [(0, .ref 0), (1, .int v1), (2, .int v2)], [.int v1, .ref 1], σ2)) 9 rfl rfl (conj_c (rfl) (trivial)) ?_
      obtain ⟨r3, σ3, hc, h⟩ := bd_some h
      refine Rc.call (Ev.mono d) (v := some (.int r3)) (as := [.ref 1, .int v1]) (r := []) 10 rfl rfl rfl rfl ⟨rfl, Nat.le_of_ble_eq_true rfl⟩ (j_haveScales_1_ok (by omega) hc) ?_
      show Rc _ _ _ (34, [(0, .ref 0), (1, .int v1), (2, .int v2)], [.int r3], σ3) _
      refine Rc.blk (c := []) (s2 := (if ¬ r3 = 0 then 44 else 37, [(0, .ref 0), (1, .int v1), (2, .int v2)], [], σ3)) 11 rfl rfl (trivial) ?_
      by_cases c5 : r3 = 0
      · rw [if_pos c5] at h
        refine Rc.ifn (fun q => q c5) ?_
        refine Rc.pick [0] (lv2 := [(0, .ref 0)]) rfl ?_
        exact j_whole_0_b37_ok hd _ _ _ h
      · rw [if_neg c5] at h
        refine Rc.ifp c5 ?_
        refine Rc.blk (c := [_, _, _]) (s2 := (56, [(0, .ref 0), (1, .int v1), (2, .int v2)], [.ref 113, .int v2, .ref 71], σ3)) 15 rfl rfl (conj_c (rfl) (conj_c (rfl) (conj_c (rfl) (trivial)))) ?_
        obtain ⟨r4, σ4, hc, h⟩ := bd_some h
        refine Rc.call (Ev.mono d) (v := none) (as := [.ref 71, .int v2, .ref 113]) (r := []) 16 rfl rfl rfl rfl ⟨rfl, Nat.le_of_ble_eq_true rfl⟩ (j_relation_71_113_ok (by omega) hc) ?_
        show Rc _ _ _ (59, [(0, .ref 0), (1, .int v1), (2, .int v2)], [], σ4) _
        refine Rc.blk (c := [_]) (s2 := (70, [(5, .int 0), (4, .int 25), (3, .ref 1004), (0, .ref 0), (1, .int v1), (2, .int v2)], [], σ4)) 17 rfl rfl (conj_c ((by decide)) (trivial)) ?_
        refine Rc.pick [3, 4, 5, 2, 1, 0] (lv2 := [(0, .ref 0), (1, .int v1), (2, .int v2), (3, .ref 1004), (4, .int 25), (5, .int 0)]) rfl ?_
        exact j_whole_0_L70_ok hd fu _ _ _ _ _ _ _ h
theorem j_off_0_b36_ok {d : Nat} (hd : 3 ≤ d) (σ : Sg) (r : Int32) (σ2 : Sg) (h : j_off_0_b36 σ = some (r, σ2)) : Rc none (Ev MT CT d) sg79 (36, [(0, .ref 0)], [], σ) (fun v s => v = some (.int r) ∧ s = σ2) := by
  unfold j_off_0_b36 at h
  refine Rc.blk (c := []) (s2 := (39, [(0, .ref 0)], [.int (-3), .ref 0], σ)) 12 rfl rfl (trivial) ?_
  obtain ⟨r1, σ1, hc, h⟩ := bd_some h
  refine Rc.call (Ev.mono d) (v := some (.int r1)) (as := [.ref 0, .int (-3)]) (r := []) 13 rfl rfl rfl rfl ⟨rfl, Nat.le_of_ble_eq_true rfl⟩ (j_refused_0_ok (by omega) hc) ?_
  show Rc _ _ _ (42, [(0, .ref 0)], [.int r1], σ1) _
  obtain ⟨rfl, rfl⟩ := some_pair h
  exact Rc.ret 14 rfl rfl rfl trivial ⟨rfl, rfl⟩
theorem j_off_0_b113_ok {d : Nat} (hd : 3 ≤ d) {k47 : Int32 → Int32 → Int32 → Sg → Option (Int32 × Sg)} (hk47 : ∀ (v1 : Int32) (v2 : Int32) (v3 : Int32) (σ : Sg) (r : Int32) (σ2 : Sg), k47 v1 v2 v3 σ = some (r, σ2) → Rc none (Ev MT CT d) sg79 (47, [(0, .ref 0), (1, .int v1), (2, .int v2), (3, .int v3)], [], σ) (fun v s => v = some (.int r) ∧ s = σ2)) (v1 : Int32) (v2 : Int32) (v3 : Int32) (σ : Sg) (r : Int32) (σ2 : Sg) (h : j_off_0_b113 k47 v1 v2 v3 σ = some (r, σ2)) : Rc none (Ev MT CT d) sg79 (113, [(0, .ref 0), (1, .int v1), (2, .int v2), (3, .int v3)], [], σ) (fun v s => v = some (.int r) ∧ s = σ2) := by
  unfold j_off_0_b113 at h
  refine Rc.blk (c := []) (s2 := (47, [(3, .int (v3 + 1)), (0, .ref 0), (1, .int v1), (2, .int v2)], [], σ)) 31 rfl rfl (trivial) ?_
  refine Rc.pick [1, 2, 3, 0] (lv2 := [(0, .ref 0), (1, .int v1), (2, .int v2), (3, .int (v3 + 1))]) rfl ?_
  exact hk47 _ _ _ _ _ _ h
theorem j_off_0_b111_ok {d : Nat} (hd : 3 ≤ d) {k47 : Int32 → Int32 → Int32 → Sg → Option (Int32 × Sg)} (hk47 : ∀ (v1 : Int32) (v2 : Int32) (v3 : Int32) (σ : Sg) (r : Int32) (σ2 : Sg), k47 v1 v2 v3 σ = some (r, σ2) → Rc none (Ev MT CT d) sg79 (47, [(0, .ref 0), (1, .int v1), (2, .int v2), (3, .int v3)], [], σ) (fun v s => v = some (.int r) ∧ s = σ2)) (v1 : Int32) (v3 : Int32) (s0 : Int32) (s1 : Int32) (σ : Sg) (r : Int32) (σ2 : Sg) (h : j_off_0_b111 k47 v1 v3 s0 s1 σ = some (r, σ2)) : Rc none (Ev MT CT d) sg79 (111, [(0, .ref 0), (1, .int v1), (3, .int v3)], [.int s1, .int s0], σ) (fun v s => v = some (.int r) ∧ s = σ2) := by
  unfold j_off_0_b111 at h
  refine Rc.blk (c := []) (s2 := (113, [(2, .int (s0 ||| s1)), (0, .ref 0), (1, .int v1), (3, .int v3)], [], σ)) 30 rfl rfl (trivial) ?_
  refine Rc.pick [1, 2, 0, 3] (lv2 := [(0, .ref 0), (1, .int v1), (2, .int (s0 ||| s1)), (3, .int v3)]) rfl ?_
  exact j_off_0_b113_ok hd hk47 _ _ _ _ _ _ h
theorem j_off_0_H47_ok {d : Nat} (hd : 3 ≤ d) {k47 : Int32 → Int32 → Int32 → Sg → Option (Int32 × Sg)} (hk47 : ∀ (v1 : Int32) (v2 : Int32) (v3 : Int32) (σ : Sg) (r : Int32) (σ2 : Sg), k47 v1 v2 v3 σ = some (r, σ2) → Rc none (Ev MT CT d) sg79 (47, [(0, .ref 0), (1, .int v1), (2, .int v2), (3, .int v3)], [], σ) (fun v s => v = some (.int r) ∧ s = σ2)) (v1 : Int32) (v2 : Int32) (v3 : Int32) (σ : Sg) (r : Int32) (σ2 : Sg) (h : j_off_0_H47 k47 v1 v2 v3 σ = some (r, σ2)) : Rc none (Ev MT CT d) sg79 (47, [(0, .ref 0), (1, .int v1), (2, .int v2), (3, .int v3)], [], σ) (fun v s => v = some (.int r) ∧ s = σ2) := by
  unfold j_off_0_H47 at h
  refine Rc.blk (c := [_, _]) (s2 := (if (σ.1 1 0) ≤ v3 then 119 else 58, [(0, .ref 0), (1, .int v1), (2, .int v2), (3, .int v3)], [], σ)) 16 rfl rfl (conj_c (rfl) (conj_c (rfl) (trivial))) ?_
  by_cases c8 : (σ.1 1 0) ≤ v3
  · rw [if_pos c8] at h
    refine Rc.ifp c8 ?_
    refine Rc.blk (c := []) (s2 := (120, [(0, .ref 0), (1, .int v1), (2, .int v2), (3, .int v3)], [.int v2], σ)) 32 rfl rfl (trivial) ?_
    obtain ⟨rfl, rfl⟩ := some_pair h
    exact Rc.ret 33 rfl rfl rfl trivial ⟨rfl, rfl⟩
  · rw [if_neg c8] at h
    refine Rc.ifn c8 ?_
    refine Rc.blk (c := []) (s2 := (60, [(0, .ref 0), (1, .int v1), (2, .int v2), (3, .int v3)], [.int v3, .int v1], σ)) 17 rfl rfl (trivial) ?_
    obtain ⟨r1, σ1, hc, h⟩ := bd_some h
    refine Rc.call (Ev.mono d) (v := some (.int r1)) (as := [.int v1, .int v3]) (r := []) 18 rfl rfl rfl rfl (Nat.le_of_ble_eq_true rfl) (j_bit_s_ok (by omega) hc) ?_
    show Rc _ _ _ (63, [(0, .ref 0), (1, .int v1), (2, .int v2), (3, .int v3)], [.int r1], σ1) _
    refine Rc.blk (c := []) (s2 := (if ¬ r1 = 0 then 113 else 66, [(0, .ref 0), (1, .int v1), (2, .int v2), (3, .int v3)], [], σ1)) 19 rfl rfl (trivial) ?_
    by_cases c7 : r1 = 0
    · rw [if_pos c7] at h
      refine Rc.ifn (fun q => q c7) ?_
      refine Rc.blk (c := [_]) (s2 := (71, [(0, .ref 0), (1, .int v1), (2, .int v2), (3, .int v3)], [.int v3, .ref 1], σ1)) 20 rfl rfl (conj_c (rfl) (trivial)) ?_
      obtain ⟨r2, σ2, hc, h⟩ := bd_some h
      refine Rc.call (Ev.mono d) (v := some (.int r2)) (as := [.ref 1, .int v3]) (r := []) 21 rfl rfl rfl rfl ⟨rfl, Nat.le_of_ble_eq_true rfl⟩ (j_hasScale_1_ok (by omega) hc) ?_
      show Rc _ _ _ (74, [(0, .ref 0), (1, .int v1), (2, .int v2), (3, .int v3)], [.int r2], σ2) _
      refine Rc.blk (c := []) (s2 := (if r2 = 0 then 113 else 77, [(0, .ref 0), (1, .int v1), (2, .int v2), (3, .int v3)], [], σ2)) 22 rfl rfl (trivial) ?_
      by_cases c6 : r2 = 0
      · rw [if_pos c6] at h
        refine Rc.ifp c6 ?_
        exact j_off_0_b113_ok hd hk47 _ _ _ _ _ _ h
      · rw [if_neg c6] at h
        refine Rc.ifn c6 ?_
        refine Rc.blk (c := [_, _, _]) (s2 := (89, [(0, .ref 0), (1, .int v1), (2, .int v2), (3, .int v3)], [.ref 113, .int v3, .ref 71], σ2)) 23 rfl rfl (conj_c (rfl) (conj_c (rfl) (conj_c (rfl) (trivial)))) ?_
        obtain ⟨r3, σ3, hc, h⟩ := bd_some h
        refine Rc.call (Ev.mono d) (v := none) (as := [.ref 71, .int v3, .ref 113]) (r := []) 24 rfl rfl rfl rfl ⟨rfl, Nat.le_of_ble_eq_true rfl⟩ (j_relation_71_113_ok (by omega) hc) ?_
        show Rc _ _ _ (92, [(0, .ref 0), (1, .int v1), (2, .int v2), (3, .int v3)], [], σ3) _
        refine Rc.blk (c := [_]) (s2 := (98, [(0, .ref 0), (1, .int v1), (2, .int v2), (3, .int v3)], [.ref 113, .ref 0, .int v2], σ3)) 25 rfl rfl (conj_c (rfl) (trivial)) ?_
        obtain ⟨r4, σ4, hc, h⟩ := bd_some h
        refine Rc.call (Ev.mono d) (v := some (.int r4)) (as := [.ref 0, .ref 113]) (r := [.int v2]) 26 rfl rfl rfl rfl ⟨rfl, Nat.le_of_ble_eq_true rfl⟩ (j_isUnbalanced_0_113_ok (by omega) hc) ?_
        show Rc _ _ _ (101, [(0, .ref 0), (1, .int v1), (2, .int v2), (3, .int v3)], [.int r4, .int v2], σ4) _
        refine Rc.blk (c := []) (s2 := (if r4 = 0 then 110 else 104, [(0, .ref 0), (1, .int v1), (2, .int v2), (3, .int v3)], [.int v2], σ4)) 27 rfl rfl (trivial) ?_
        by_cases c5 : r4 = 0
        · rw [if_pos c5] at h
          refine Rc.ifp c5 ?_
          refine Rc.blk (c := []) (s2 := (111, [(0, .ref 0), (1, .int v1), (2, .int v2), (3, .int v3)], [.int 0, .int v2], σ4)) 29 rfl rfl (trivial) ?_
          refine Rc.pick [0, 1, 3] (lv2 := [(0, .ref 0), (1, .int v1), (3, .int v3)]) rfl ?_
          exact j_off_0_b111_ok hd hk47 _ _ _ _ _ _ _ h
        · rw [if_neg c5] at h
          refine Rc.ifn c5 ?_
          refine Rc.blk (c := []) (s2 := (111, [(0, .ref 0), (1, .int v1), (2, .int v2), (3, .int v3)], [.int ((1 : Int32) <<< (v3 &&& 31)), .int v2], σ4)) 28 rfl rfl (trivial) ?_
          refine Rc.pick [0, 1, 3] (lv2 := [(0, .ref 0), (1, .int v1), (3, .int v3)]) rfl ?_
          exact j_off_0_b111_ok hd hk47 _ _ _ _ _ _ _ h
    · rw [if_neg c7] at h
      refine Rc.ifp c7 ?_
      exact j_off_0_b113_ok hd hk47 _ _ _ _ _ _ h
theorem j_off_0_L47_ok {d : Nat} (hd : 3 ≤ d) : ∀ (n : Nat) (v1 : Int32) (v2 : Int32) (v3 : Int32) (σ : Sg) (r : Int32) (σ2 : Sg), j_off_0_L47 n v1 v2 v3 σ = some (r, σ2) → Rc none (Ev MT CT d) sg79 (47, [(0, .ref 0), (1, .int v1), (2, .int v2), (3, .int v3)], [], σ) (fun v s => v = some (.int r) ∧ s = σ2)
  | 0, _, _, _, _, _, _, h => by cases h
  | n + 1, v1, v2, v3, σ, r, σ2, h => j_off_0_H47_ok hd (j_off_0_L47_ok hd n) v1 v2 v3 σ r σ2 h
theorem j_off_0_ok {d : Nat} (hd : 4 ≤ d) {v1 : Int32} {σ : Sg} {r : Int32} {σ2 : Sg} (h : j_off_0 v1 σ = some (r, σ2)) : Ev MT CT d 79 [.ref 0, .int v1] σ (fun v s => v = some (.int r) ∧ s = σ2) := by
  obtain ⟨d, rfl⟩ : ∃ e, d = e + 1 := ⟨d - 1, by omega⟩
  refine ⟨Nat.le_of_ble_eq_true rfl, ?_⟩
  show Rc none (Ev MT CT d) sg79 (0, [(0, .ref 0), (1, .int v1)], [], σ) _
  unfold j_off_0 at h
  have hd : 3 ≤ d := by omega
  refine Rc.blk (c := []) (s2 := (2, [(0, .ref 0), (1, .int v1)], [.int v1, .ref 0], σ)) 0 rfl rfl (trivial) ?_
  obtain ⟨r1, σ1, hc, h⟩ := bd_some h
  refine Rc.call (Ev.mono d) (v := some (.int r1)) (as := [.ref 0, .int v1]) (r := []) 1 rfl rfl rfl rfl ⟨rfl, Nat.le_of_ble_eq_true rfl⟩ (j_isSet_0_ok (by omega) hc) ?_
  show Rc _ _ _ (5, [(0, .ref 0), (1, .int v1)], [.int r1], σ1) _
  refine Rc.blk (c := []) (s2 := (if ¬ r1 = 0 then 14 else 8, [(0, .ref 0), (1, .int v1)], [], σ1)) 2 rfl rfl (trivial) ?_
  by_cases c7 : r1 = 0
  · rw [if_pos c7] at h
    refine Rc.ifn (fun q => q c7) ?_
    refine Rc.blk (c := []) (s2 := (10, [(0, .ref 0), (1, .int v1)], [.int (-1), .ref 0], σ1)) 3 rfl rfl (trivial) ?_
    obtain ⟨r6, σ6, hc, h⟩ := bd_some h
    refine Rc.call (Ev.mono d) (v := some (.int r6)) (as := [.ref 0, .int (-1)]) (r := []) 4 rfl rfl rfl rfl ⟨rfl, Nat.le_of_ble_eq_true rfl⟩ (j_refused_0_ok (by omega) hc) ?_
    show Rc _ _ _ (13, [(0, .ref 0), (1, .int v1)], [.int r6], σ6) _
    obtain ⟨rfl, rfl⟩ := some_pair h
    exact Rc.ret 5 rfl rfl rfl trivial ⟨rfl, rfl⟩
  · rw [if_neg c7] at h
    refine Rc.ifp c7 ?_
    refine Rc.blk (c := [_]) (s2 := (19, [(0, .ref 0), (1, .int v1)], [.int v1, .ref 70], σ1)) 6 rfl rfl (conj_c (rfl) (trivial)) ?_
    obtain ⟨r2, σ2, hc, h⟩ := bd_some h
    refine Rc.call (Ev.mono d) (v := some (.int r2)) (as := [.ref 70, .int v1]) (r := []) 7 rfl rfl rfl rfl ⟨rfl, Nat.le_of_ble_eq_true rfl⟩ (j_choose_70_ok (by omega) hc) ?_
    show Rc _ _ _ (22, [(0, .ref 0), (1, .int v1)], [.int r2], σ2) _
    refine Rc.blk (c := []) (s2 := (if r2 = 0 then 36 else 25, [(0, .ref 0), (1, .int v1)], [], σ2)) 8 rfl rfl (trivial) ?_
    by_cases c5 : r2 = 0
    · rw [if_pos c5] at h
      refine Rc.ifp c5 ?_
      refine Rc.pick [0] (lv2 := [(0, .ref 0)]) rfl ?_
      exact j_off_0_b36_ok hd _ _ _ h
    · rw [if_neg c5] at h
      refine Rc.ifn c5 ?_
      refine Rc.blk (c := [_]) (s2 := (30, [(0, .ref 0), (1, .int v1)], [.int v1, .ref 1], σ2)) 9 rfl rfl (conj_c (rfl) (trivial)) ?_
      obtain ⟨r3, σ3, hc, h⟩ := bd_some h
      refine Rc.call (Ev.mono d) (v := some (.int r3)) (as := [.ref 1, .int v1]) (r := []) 10 rfl rfl rfl rfl ⟨rfl, Nat.le_of_ble_eq_true rfl⟩ (j_haveScales_1_ok (by omega) hc) ?_
      show Rc _ _ _ (33, [(0, .ref 0), (1, .int v1)], [.int r3], σ3) _
      refine Rc.blk (c := []) (s2 := (if ¬ r3 = 0 then 43 else 36, [(0, .ref 0), (1, .int v1)], [], σ3)) 11 rfl rfl (trivial) ?_
      by_cases c4 : r3 = 0
      · rw [if_pos c4] at h
        refine Rc.ifn (fun q => q c4) ?_
        refine Rc.pick [0] (lv2 := [(0, .ref 0)]) rfl ?_
        exact j_off_0_b36_ok hd _ _ _ h
      · rw [if_neg c4] at h
        refine Rc.ifp c4 ?_
        refine Rc.blk (c := []) (s2 := (47, [(3, .int 0), (2, .int 0), (0, .ref 0), (1, .int v1)], [], σ3)) 15 rfl rfl (trivial) ?_
        refine Rc.pick [2, 3, 1, 0] (lv2 := [(0, .ref 0), (1, .int v1), (2, .int 0), (3, .int 0)]) rfl ?_
        exact j_off_0_L47_ok hd fu _ _ _ _ _ _ h
theorem j_hasRow_82_83_H22_ok (d0 : Nat) (rs : Int32 → Int32 → Int32 → Int64 → Sg → Option (Int32 × Sg)) (hrs : ∀ (v1 : Int32) (v3 : Int32) (v4 : Int32) (v5 : Int64) (σ : Sg) (r : Int32) (σ2 : Sg), rs v1 v3 v4 v5 σ = some (r, σ2) → Ev MT CT d0 47 [.ref 82, .int v1, .ref 83, .int v3, .int v4, .long v5] σ (fun v s => v = some (.int r) ∧ s = σ2)) {d : Nat} (hd : 0 ≤ d) (hd0 : d0 + 0 ≤ d) {k22 : Int32 → Int32 → Int32 → Int64 → Int32 → Sg → Option (Int32 × Sg)} (hk22 : ∀ (v1 : Int32) (v3 : Int32) (v4 : Int32) (v5 : Int64) (v7 : Int32) (σ : Sg) (r : Int32) (σ2 : Sg), k22 v1 v3 v4 v5 v7 σ = some (r, σ2) → Rc none (Ev MT CT d) sg47 (22, [(0, .ref 82), (1, .int v1), (2, .ref 83), (3, .int v3), (4, .int v4), (5, .long v5), (7, .int v7)], [], σ) (fun v s => v = some (.int r) ∧ s = σ2)) (v1 : Int32) (v3 : Int32) (v4 : Int32) (v5 : Int64) (v7 : Int32) (σ : Sg) (r : Int32) (σ2 : Sg) (h : j_hasRow_82_83_H22 rs k22 v1 v3 v4 v5 v7 σ = some (r, σ2)) : Rc none (Ev MT CT d) sg47 (22, [(0, .ref 82), (1, .int v1), (2, .ref 83), (3, .int v3), (4, .int v4), (5, .long v5), (7, .int v7)], [], σ) (fun v s => v = some (.int r) ∧ s = σ2) := by
  unfold j_hasRow_82_83_H22 at h
  refine Rc.blk (c := []) (s2 := (if v1 ≤ v7 then 62 else 28, [(0, .ref 82), (1, .int v1), (2, .ref 83), (3, .int v3), (4, .int v4), (5, .long v5), (7, .int v7)], [], σ)) 6 rfl rfl (trivial) ?_
  by_cases c5 : v1 ≤ v7
  · rw [if_pos c5] at h
    refine Rc.ifp c5 ?_
    refine Rc.blk (c := []) (s2 := (63, [(0, .ref 82), (1, .int v1), (2, .ref 83), (3, .int v3), (4, .int v4), (5, .long v5), (7, .int v7)], [.int 0], σ)) 13 rfl rfl (trivial) ?_
    obtain ⟨rfl, rfl⟩ := some_pair h
    exact Rc.ret 14 rfl rfl rfl (Or.inl rfl) ⟨rfl, rfl⟩
  · rw [if_neg c5] at h
    refine Rc.ifn c5 ?_
    obtain ⟨g1, h⟩ := gd_some h
    obtain ⟨g2, h⟩ := gd_some h
    refine Rc.blk (c := [_, _]) (s2 := (48, [(0, .ref 82), (1, .int v1), (2, .ref 83), (3, .int v3), (4, .int v4), (5, .long v5), (7, .int v7)], [.long (v5 - ((si σ 83 v3.toNatClampNeg v7).2 82 v7.toNatClampNeg)), .int v4, .int (v3 + 1), .ref 83, .int v1, .ref 82], si σ 83 v3.toNatClampNeg v7)) 7 rfl rfl (conj_c (⟨rfl, inB_in g1⟩) (conj_c (⟨rfl, inB_in g2⟩) (trivial))) ?_
    obtain ⟨r3, σ3, hc, h⟩ := bd_some h
    refine Rc.call (Ev.mono d) (v := some (.int r3)) (as := [.ref 82, .int v1, .ref 83, .int (v3 + 1), .int v4, .long (v5 - ((si σ 83 v3.toNatClampNeg v7).2 82 v7.toNatClampNeg))]) (r := []) 8 rfl rfl rfl rfl (Nat.le_of_ble_eq_true rfl) (Ev.le (by omega) (hrs _ _ _ _ _ _ _ hc)) ?_
    show Rc _ _ _ (51, [(0, .ref 82), (1, .int v1), (2, .ref 83), (3, .int v3), (4, .int v4), (5, .long v5), (7, .int v7)], [.int r3], σ3) _
    refine Rc.blk (c := []) (s2 := (if r3 = 0 then 56 else 54, [(0, .ref 82), (1, .int v1), (2, .ref 83), (3, .int v3), (4, .int v4), (5, .long v5), (7, .int v7)], [], σ3)) 9 rfl rfl (trivial) ?_
    by_cases c4 : r3 = 0
    · rw [if_pos c4] at h
      refine Rc.ifp c4 ?_
      refine Rc.blk (c := []) (s2 := (22, [(7, .int (v7 + 1)), (0, .ref 82), (1, .int v1), (2, .ref 83), (3, .int v3), (4, .int v4), (5, .long v5)], [], σ3)) 12 rfl rfl (trivial) ?_
      refine Rc.pick [1, 2, 3, 4, 5, 6, 0] (lv2 := [(0, .ref 82), (1, .int v1), (2, .ref 83), (3, .int v3), (4, .int v4), (5, .long v5), (7, .int (v7 + 1))]) rfl ?_
      exact hk22 _ _ _ _ _ _ _ _ h
    · rw [if_neg c4] at h
      refine Rc.ifn c4 ?_
      refine Rc.blk (c := []) (s2 := (55, [(0, .ref 82), (1, .int v1), (2, .ref 83), (3, .int v3), (4, .int v4), (5, .long v5), (7, .int v7)], [.int 1], σ3)) 10 rfl rfl (trivial) ?_
      obtain ⟨rfl, rfl⟩ := some_pair h
      exact Rc.ret 11 rfl rfl rfl (Or.inr rfl) ⟨rfl, rfl⟩
theorem j_hasRow_82_83_L22_ok (d0 : Nat) (rs : Int32 → Int32 → Int32 → Int64 → Sg → Option (Int32 × Sg)) (hrs : ∀ (v1 : Int32) (v3 : Int32) (v4 : Int32) (v5 : Int64) (σ : Sg) (r : Int32) (σ2 : Sg), rs v1 v3 v4 v5 σ = some (r, σ2) → Ev MT CT d0 47 [.ref 82, .int v1, .ref 83, .int v3, .int v4, .long v5] σ (fun v s => v = some (.int r) ∧ s = σ2)) {d : Nat} (hd : 0 ≤ d) (hd0 : d0 + 0 ≤ d) : ∀ (n : Nat) (v1 : Int32) (v3 : Int32) (v4 : Int32) (v5 : Int64) (v7 : Int32) (σ : Sg) (r : Int32) (σ2 : Sg), j_hasRow_82_83_L22 rs n v1 v3 v4 v5 v7 σ = some (r, σ2) → Rc none (Ev MT CT d) sg47 (22, [(0, .ref 82), (1, .int v1), (2, .ref 83), (3, .int v3), (4, .int v4), (5, .long v5), (7, .int v7)], [], σ) (fun v s => v = some (.int r) ∧ s = σ2)
  | 0, _, _, _, _, _, _, _, _, h => by cases h
  | n + 1, v1, v3, v4, v5, v7, σ, r, σ2, h => j_hasRow_82_83_H22_ok d0 rs hrs hd hd0 (j_hasRow_82_83_L22_ok d0 rs hrs hd hd0 n) v1 v3 v4 v5 v7 σ r σ2 h
theorem j_hasRow_82_83_b18_ok (d0 : Nat) (rs : Int32 → Int32 → Int32 → Int64 → Sg → Option (Int32 × Sg)) (hrs : ∀ (v1 : Int32) (v3 : Int32) (v4 : Int32) (v5 : Int64) (σ : Sg) (r : Int32) (σ2 : Sg), rs v1 v3 v4 v5 σ = some (r, σ2) → Ev MT CT d0 47 [.ref 82, .int v1, .ref 83, .int v3, .int v4, .long v5] σ (fun v s => v = some (.int r) ∧ s = σ2)) {d : Nat} (hd : 0 ≤ d) (hd0 : d0 + 0 ≤ d) (s0 : Int32) (σ : Sg) (r : Int32) (σ2 : Sg) (h : j_hasRow_82_83_b18 rs s0 σ = some (r, σ2)) : Rc none (Ev MT CT d) sg47 (18, [], [.int s0], σ) (fun v s => v = some (.int r) ∧ s = σ2) := by
  unfold j_hasRow_82_83_b18 at h
  obtain ⟨g, h⟩ := gd_some h
  obtain ⟨rfl, rfl⟩ := some_pair h
  exact Rc.ret 4 rfl rfl rfl (nbB_ok g) ⟨rfl, rfl⟩
theorem j_hasRow_82_83_H_ok (d0 : Nat) (rs : Int32 → Int32 → Int32 → Int64 → Sg → Option (Int32 × Sg)) (hrs : ∀ (v1 : Int32) (v3 : Int32) (v4 : Int32) (v5 : Int64) (σ : Sg) (r : Int32) (σ2 : Sg), rs v1 v3 v4 v5 σ = some (r, σ2) → Ev MT CT d0 47 [.ref 82, .int v1, .ref 83, .int v3, .int v4, .long v5] σ (fun v s => v = some (.int r) ∧ s = σ2)) {d : Nat} (hd : 1 ≤ d) (hd0 : d0 + 1 ≤ d) {v1 : Int32} {v3 : Int32} {v4 : Int32} {v5 : Int64} {σ : Sg} {r : Int32} {σ2 : Sg} (h : j_hasRow_82_83_H rs v1 v3 v4 v5 σ = some (r, σ2)) : Ev MT CT d 47 [.ref 82, .int v1, .ref 83, .int v3, .int v4, .long v5] σ (fun v s => v = some (.int r) ∧ s = σ2) := by
  obtain ⟨d, rfl⟩ : ∃ e, d = e + 1 := ⟨d - 1, by omega⟩
  refine ⟨Nat.le_of_ble_eq_true rfl, ?_⟩
  show Rc none (Ev MT CT d) sg47 (0, [(0, .ref 82), (1, .int v1), (2, .ref 83), (3, .int v3), (4, .int v4), (5, .long v5)], [], σ) _
  unfold j_hasRow_82_83_H at h
  have hd : 0 ≤ d := by omega
  have hd0 : d0 + 0 ≤ d := by omega
  refine Rc.blk (c := []) (s2 := (if v3 < v4 then 19 else 6, [(0, .ref 82), (1, .int v1), (2, .ref 83), (3, .int v3), (4, .int v4), (5, .long v5)], [], σ)) 0 rfl rfl (trivial) ?_
  by_cases c2 : v3 < v4
  · rw [if_pos c2] at h
    refine Rc.ifp c2 ?_
    refine Rc.blk (c := []) (s2 := (22, [(7, .int 0), (0, .ref 82), (1, .int v1), (2, .ref 83), (3, .int v3), (4, .int v4), (5, .long v5)], [], σ)) 5 rfl rfl (trivial) ?_
    refine Rc.pick [1, 2, 3, 4, 5, 6, 0] (lv2 := [(0, .ref 82), (1, .int v1), (2, .ref 83), (3, .int v3), (4, .int v4), (5, .long v5), (7, .int 0)]) rfl ?_
    exact j_hasRow_82_83_L22_ok d0 rs hrs hd hd0 fu _ _ _ _ _ _ _ _ h
  · rw [if_neg c2] at h
    refine Rc.ifn c2 ?_
    refine Rc.blk (c := []) (s2 := (if ¬ (lg_cmp v5 0) = 0 then 17 else 13, [(0, .ref 82), (1, .int v1), (2, .ref 83), (3, .int v3), (4, .int v4), (5, .long v5)], [], σ)) 1 rfl rfl (trivial) ?_
    by_cases c1 : (lg_cmp v5 0) = 0
    · rw [if_pos c1] at h
      refine Rc.ifn (fun q => q c1) ?_
      refine Rc.blk (c := []) (s2 := (18, [(0, .ref 82), (1, .int v1), (2, .ref 83), (3, .int v3), (4, .int v4), (5, .long v5)], [.int 1], σ)) 2 rfl rfl (trivial) ?_
      refine Rc.pick [] (lv2 := []) rfl ?_
      exact j_hasRow_82_83_b18_ok d0 rs hrs hd hd0 _ _ _ _ h
    · rw [if_neg c1] at h
      refine Rc.ifp c1 ?_
      refine Rc.blk (c := []) (s2 := (18, [(0, .ref 82), (1, .int v1), (2, .ref 83), (3, .int v3), (4, .int v4), (5, .long v5)], [.int 0], σ)) 3 rfl rfl (trivial) ?_
      refine Rc.pick [] (lv2 := []) rfl ?_
      exact j_hasRow_82_83_b18_ok d0 rs hrs hd hd0 _ _ _ _ h
theorem j_hasRow_82_83_lv : ∀ (n : Nat) (v1 : Int32) (v3 : Int32) (v4 : Int32) (v5 : Int64) (σ : Sg) (r : Int32) (σ2 : Sg), j_hasRow_82_83 n v1 v3 v4 v5 σ = some (r, σ2) → Ev MT CT (1 + 1 * n) 47 [.ref 82, .int v1, .ref 83, .int v3, .int v4, .long v5] σ (fun v s => v = some (.int r) ∧ s = σ2)
  | 0, _, _, _, _, _, _, _, h => by cases h
  | n + 1, v1, v3, v4, v5, σ, r, σ2, h => j_hasRow_82_83_H_ok (1 + 1 * n) (j_hasRow_82_83 n) (j_hasRow_82_83_lv n) (by omega) (by omega) h
theorem j_hasRow_82_83_top {d : Nat} (hd : 13 ≤ d) {v1 : Int32} {v3 : Int32} {v4 : Int32} {v5 : Int64} {σ : Sg} {r : Int32} {σ2 : Sg} (h : j_hasRow_82_83 12 v1 v3 v4 v5 σ = some (r, σ2)) : Ev MT CT d 47 [.ref 82, .int v1, .ref 83, .int v3, .int v4, .long v5] σ (fun v s => v = some (.int r) ∧ s = σ2) := Ev.le (by omega) (j_hasRow_82_83_lv 12 v1 v3 v4 v5 σ r σ2 h)
