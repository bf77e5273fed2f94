/-! ===== the small machine does what the functions say ===== -/
theorem j_refused_0_b22_ok {d : Nat} (hd : 0 ≤ d) (v1 : Int32) (σ : Sg) (r : Int32) (σ2 : Sg) (h : j_refused_0_b22 v1 σ = some (r, σ2)) : Rc none (Ev MT CT d) sg96 (22, [(1, .int v1)], [], σ) (fun v s => v = some (.int r) ∧ s = σ2) := by
  unfold j_refused_0_b22 at h
  refine Rc.blk (c := []) (s2 := (23, [(1, .int v1)], [.int v1], σ)) 3 rfl rfl (trivial) ?_
  obtain ⟨rfl, rfl⟩ := some_pair h
  exact Rc.ret 4 rfl rfl rfl trivial ⟨rfl, rfl⟩
theorem j_refused_0_ok {d : Nat} (hd : 1 ≤ d) {v1 : Int32} {σ : Sg} {r : Int32} {σ2 : Sg} (h : j_refused_0 v1 σ = some (r, σ2)) : Ev MT CT d 96 [.ref 0, .int v1] σ (fun v s => v = some (.int r) ∧ s = σ2) := by
  obtain ⟨d, rfl⟩ : ∃ e, d = e + 1 := ⟨d - 1, by omega⟩
  refine ⟨Nat.le_of_ble_eq_true rfl, ?_⟩
  show Rc none (Ev MT CT d) sg96 (0, [(0, .ref 0), (1, .int v1)], [], σ) _
  unfold j_refused_0 at h
  have hd : 0 ≤ d := by omega
  refine Rc.blk (c := []) (s2 := (if (-1) < v1 then 22 else 5, [(0, .ref 0), (1, .int v1)], [], σ)) 0 rfl rfl (trivial) ?_
  by_cases c4 : (-1) < v1
  · rw [if_pos c4] at h
    refine Rc.ifp c4 ?_
    refine Rc.pick [1] (lv2 := [(1, .int v1)]) rfl ?_
    exact j_refused_0_b22_ok hd _ _ _ _ h
  · rw [if_neg c4] at h
    refine Rc.ifn c4 ?_
    refine Rc.blk (c := []) (s2 := (if v1 < (-6) then 22 else 11, [(0, .ref 0), (1, .int v1)], [], σ)) 1 rfl rfl (trivial) ?_
    by_cases c3 : v1 < (-6)
    · rw [if_pos c3] at h
      refine Rc.ifp c3 ?_
      refine Rc.pick [1] (lv2 := [(1, .int v1)]) rfl ?_
      exact j_refused_0_b22_ok hd _ _ _ _ h
    · rw [if_neg c3] at h
      refine Rc.ifn c3 ?_
      obtain ⟨g1, h⟩ := gd_some h
      obtain ⟨g2, h⟩ := gd_some h
      refine Rc.blk (c := [_, _, _, _]) (s2 := (22, [(0, .ref 0), (1, .int v1)], [], si σ 116 (-v1).toNatClampNeg ((σ.1 116 (-v1).toNatClampNeg) + 1))) 2 rfl rfl (conj_c (rfl) (conj_c (⟨rfl, rfl⟩) (conj_c (⟨rfl, inB_in g1⟩) (conj_c (⟨rfl, inB_in g2⟩) (trivial))))) ?_
      refine Rc.pick [1] (lv2 := [(1, .int v1)]) rfl ?_
      exact j_refused_0_b22_ok hd _ _ _ _ h
theorem j_letter_0_b27_ok {d : Nat} (hd : 1 ≤ d) (σ : Sg) (r : Int32) (σ2 : Sg) (h : j_letter_0_b27 σ = some (r, σ2)) : Rc none (Ev MT CT d) sg56 (27, [(0, .ref 0)], [], σ) (fun v s => v = some (.int r) ∧ s = σ2) := by
  unfold j_letter_0_b27 at h
  refine Rc.blk (c := []) (s2 := (30, [(0, .ref 0)], [.int (-6), .ref 0], σ)) 6 rfl rfl (trivial) ?_
  obtain ⟨r1, σ1, hc, h⟩ := bd_some h
  refine Rc.call (Ev.mono d) (v := some (.int r1)) (as := [.ref 0, .int (-6)]) (r := []) 7 rfl rfl rfl rfl ⟨rfl, Nat.le_of_ble_eq_true rfl⟩ (j_refused_0_ok (by omega) hc) ?_
  show Rc _ _ _ (33, [(0, .ref 0)], [.int r1], σ1) _
  obtain ⟨rfl, rfl⟩ := some_pair h
  exact Rc.ret 8 rfl rfl rfl trivial ⟨rfl, rfl⟩
theorem j_letter_0_ok {d : Nat} (hd : 2 ≤ d) {v1 : Int32} {σ : Sg} {r : Int32} {σ2 : Sg} (h : j_letter_0 v1 σ = some (r, σ2)) : Ev MT CT d 56 [.ref 0, .int v1] σ (fun v s => v = some (.int r) ∧ s = σ2) := by
  obtain ⟨d, rfl⟩ : ∃ e, d = e + 1 := ⟨d - 1, by omega⟩
  refine ⟨Nat.le_of_ble_eq_true rfl, ?_⟩
  show Rc none (Ev MT CT d) sg56 (0, [(0, .ref 0), (1, .int v1)], [], σ) _
  unfold j_letter_0 at h
  have hd : 1 ≤ d := by omega
  refine Rc.blk (c := []) (s2 := (if 0 ≤ v1 then 11 else 4, [(0, .ref 0), (1, .int v1)], [], σ)) 0 rfl rfl (trivial) ?_
  by_cases c5 : 0 ≤ v1
  · rw [if_pos c5] at h
    refine Rc.ifp c5 ?_
    refine Rc.blk (c := []) (s2 := (if 255 < v1 then 27 else 18, [(0, .ref 0), (1, .int v1)], [], σ)) 4 rfl rfl (trivial) ?_
    by_cases c3 : 255 < v1
    · rw [if_pos c3] at h
      refine Rc.ifp c3 ?_
      refine Rc.pick [0] (lv2 := [(0, .ref 0)]) rfl ?_
      exact j_letter_0_b27_ok hd _ _ _ h
    · rw [if_neg c3] at h
      refine Rc.ifn c3 ?_
      refine Rc.blk (c := [_]) (s2 := (if (σ.1 0 9) < 72 then 34 else 27, [(0, .ref 0), (1, .int v1)], [], σ)) 5 rfl rfl (conj_c (rfl) (trivial)) ?_
      by_cases c2 : (σ.1 0 9) < 72
      · rw [if_pos c2] at h
        refine Rc.ifp c2 ?_
        obtain ⟨g1, h⟩ := gd_some h
        refine Rc.blk (c := [_, _, _, _, _, _, _]) (s2 := (58, [(0, .ref 0), (1, .int v1)], [.int ((si (si σ 107 (σ.1 0 9).toNatClampNeg v1) 0 9 (((si σ 107 (σ.1 0 9).toNatClampNeg v1).1 0 9) + 1)).1 0 9)], si (si σ 107 (σ.1 0 9).toNatClampNeg v1) 0 9 (((si σ 107 (σ.1 0 9).toNatClampNeg v1).1 0 9) + 1))) 9 rfl rfl (conj_c (rfl) (conj_c (rfl) (conj_c (⟨rfl, inB_in g1⟩) (conj_c (rfl) (conj_c (rfl) (conj_c (rfl) (conj_c (rfl) (trivial)))))))) ?_
        obtain ⟨rfl, rfl⟩ := some_pair h
        exact Rc.ret 10 rfl rfl rfl trivial ⟨rfl, rfl⟩
      · rw [if_neg c2] at h
        refine Rc.ifn c2 ?_
        refine Rc.pick [0] (lv2 := [(0, .ref 0)]) rfl ?_
        exact j_letter_0_b27_ok hd _ _ _ h
  · rw [if_neg c5] at h
    refine Rc.ifn c5 ?_
    refine Rc.blk (c := []) (s2 := (7, [(0, .ref 0), (1, .int v1)], [.int (-4), .ref 0], σ)) 1 rfl rfl (trivial) ?_
    obtain ⟨r4, σ4, hc, h⟩ := bd_some h
    refine Rc.call (Ev.mono d) (v := some (.int r4)) (as := [.ref 0, .int (-4)]) (r := []) 2 rfl rfl rfl rfl ⟨rfl, Nat.le_of_ble_eq_true rfl⟩ (j_refused_0_ok (by omega) hc) ?_
    show Rc _ _ _ (10, [(0, .ref 0), (1, .int v1)], [.int r4], σ4) _
    obtain ⟨rfl, rfl⟩ := some_pair h
    exact Rc.ret 3 rfl rfl rfl trivial ⟨rfl, rfl⟩
theorem j_forget_29_ok {d : Nat} (hd : 1 ≤ d) {σ : Sg} {r : Unit} {σ2 : Sg} (h : j_forget_29 σ = some (r, σ2)) : Ev MT CT d 9 [.ref 29] σ (fun v s => v = none ∧ s = σ2) := by
  obtain ⟨d, rfl⟩ : ∃ e, d = e + 1 := ⟨d - 1, by omega⟩
  refine ⟨Nat.le_of_ble_eq_true rfl, ?_⟩
  show Rc none (Ev MT CT d) sg9 (0, [(0, .ref 29)], [], σ) _
  unfold j_forget_29 at h
  have hd : 0 ≤ d := by omega
  refine Rc.blk (c := [_]) (s2 := (5, [(0, .ref 29)], [], si σ 29 2 0)) 0 rfl rfl (conj_c (rfl) (trivial)) ?_
  obtain ⟨rfl, rfl⟩ := some_pair h
  exact Rc.ret 1 rfl rfl rfl trivial ⟨rfl, rfl⟩
theorem j_fillAII_x_H5_ok {d : Nat} (hd : 0 ≤ d) {k5 : Nat → Int32 → Int32 → Int32 → Sg → Option (Unit × Sg)} (hk5 : ∀ (v0 : Nat) (v1 : Int32) (v2 : Int32) (v3 : Int32) (σ : Sg) (r : Unit) (σ2 : Sg), k5 v0 v1 v2 v3 σ = some (r, σ2) → Rc none (Ev MT CT d) sg230 (5, [(0, .ref v0), (1, .int v1), (2, .int v2), (3, .int v3)], [], σ) (fun v s => v = none ∧ s = σ2)) (v0 : Nat) (v1 : Int32) (v2 : Int32) (v3 : Int32) (σ : Sg) (r : Unit) (σ2 : Sg) (h : j_fillAII_x_H5 k5 v0 v1 v2 v3 σ = some (r, σ2)) : Rc none (Ev MT CT d) sg230 (5, [(0, .ref v0), (1, .int v1), (2, .int v2), (3, .int v3)], [], σ) (fun v s => v = none ∧ s = σ2) := by
  unfold j_fillAII_x_H5 at h
  refine Rc.blk (c := []) (s2 := (if v3 ≤ v2 then 20 else 10, [(0, .ref v0), (1, .int v1), (2, .int v2), (3, .int v3)], [], σ)) 1 rfl rfl (trivial) ?_
  by_cases c2 : v3 ≤ v2
  · rw [if_pos c2] at h
    refine Rc.ifp c2 ?_
    obtain ⟨rfl, rfl⟩ := some_pair h
    exact Rc.ret 3 rfl rfl rfl trivial ⟨rfl, rfl⟩
  · rw [if_neg c2] at h
    refine Rc.ifn c2 ?_
    obtain ⟨g1, h⟩ := gd_some h
    refine Rc.blk (c := [_]) (s2 := (5, [(2, .int (v2 + 1)), (0, .ref v0), (1, .int v1), (3, .int v3)], [], si σ v0 v2.toNatClampNeg v1)) 2 rfl rfl (conj_c (arB_in g1) (trivial)) ?_
    refine Rc.pick [1, 2, 0, 3] (lv2 := [(0, .ref v0), (1, .int v1), (2, .int (v2 + 1)), (3, .int v3)]) rfl ?_
    exact hk5 _ _ _ _ _ _ _ h
theorem j_fillAII_x_L5_ok {d : Nat} (hd : 0 ≤ d) : ∀ (n : Nat) (v0 : Nat) (v1 : Int32) (v2 : Int32) (v3 : Int32) (σ : Sg) (r : Unit) (σ2 : Sg), j_fillAII_x_L5 n v0 v1 v2 v3 σ = some (r, σ2) → Rc none (Ev MT CT d) sg230 (5, [(0, .ref v0), (1, .int v1), (2, .int v2), (3, .int v3)], [], σ) (fun v s => v = none ∧ s = σ2)
  | 0, _, _, _, _, _, _, _, h => by cases h
  | n + 1, v0, v1, v2, v3, σ, r, σ2, h => j_fillAII_x_H5_ok hd (j_fillAII_x_L5_ok hd n) v0 v1 v2 v3 σ r σ2 h
theorem j_fillAII_x_ok {d : Nat} (hd : 1 ≤ d) {v0 : Nat} {v1 : Int32} {σ : Sg} {r : Unit} {σ2 : Sg} (h : j_fillAII_x v0 v1 σ = some (r, σ2)) : Ev MT CT d 230 [.ref v0, .int v1] σ (fun v s => v = none ∧ s = σ2) := by
  obtain ⟨d, rfl⟩ : ∃ e, d = e + 1 := ⟨d - 1, by omega⟩
  refine ⟨Nat.le_of_ble_eq_true rfl, ?_⟩
  show Rc none (Ev MT CT d) sg230 (0, [(0, .ref v0), (1, .int v1)], [], σ) _
  unfold j_fillAII_x at h
  have hd : 0 ≤ d := by omega
  obtain ⟨g1, h⟩ := gd_some h
  refine Rc.blk (c := [_]) (s2 := (5, [(3, .int (Int32.ofNat (al v0))), (2, .int 0), (0, .ref v0), (1, .int v1)], [], σ)) 0 rfl rfl (conj_c (ckB_lt g1) (trivial)) ?_
  refine Rc.pick [2, 3, 1, 0] (lv2 := [(0, .ref v0), (1, .int v1), (2, .int 0), (3, .int (Int32.ofNat (al v0)))]) rfl ?_
  exact j_fillAII_x_L5_ok hd fu _ _ _ _ _ _ _ h
theorem j_add_1_b62_ok {d : Nat} (hd : 1 ≤ d) (σ : Sg) (r : Unit) (σ2 : Sg) (h : j_add_1_b62 σ = some (r, σ2)) : Rc none (Ev MT CT d) sg12 (62, [], [], σ) (fun v s => v = none ∧ s = σ2) := by
  unfold j_add_1_b62 at h
  obtain ⟨rfl, rfl⟩ := some_pair h
  exact Rc.ret 4 rfl rfl rfl trivial ⟨rfl, rfl⟩
theorem j_add_1_ok {d : Nat} (hd : 2 ≤ d) {v1 : Int32} {σ : Sg} {r : Unit} {σ2 : Sg} (h : j_add_1 v1 σ = some (r, σ2)) : Ev MT CT d 12 [.ref 1, .int v1] σ (fun v s => v = none ∧ s = σ2) := by
  obtain ⟨d, rfl⟩ : ∃ e, d = e + 1 := ⟨d - 1, by omega⟩
  refine ⟨Nat.le_of_ble_eq_true rfl, ?_⟩
  show Rc none (Ev MT CT d) sg12 (0, [(0, .ref 1), (1, .int v1)], [], σ) _
  unfold j_add_1 at h
  have hd : 1 ≤ d := by omega
  refine Rc.blk (c := [_]) (s2 := (if 8 ≤ (σ.1 1 0) then 62 else 9, [(0, .ref 1), (1, .int v1)], [], σ)) 0 rfl rfl (conj_c (rfl) (trivial)) ?_
  by_cases c6 : 8 ≤ (σ.1 1 0)
  · rw [if_pos c6] at h
    refine Rc.ifp c6 ?_
    refine Rc.pick [] (lv2 := []) rfl ?_
    exact j_add_1_b62_ok hd _ _ _ h
  · rw [if_neg c6] at h
    refine Rc.ifn c6 ?_
    obtain ⟨g1, h⟩ := gd_some h
    obtain ⟨g2, h⟩ := gd_some h
    obtain ⟨g3, h⟩ := gd_some h
    obtain ⟨g4, h⟩ := gd_some h
    refine Rc.blk (c := [_, _, _, _, _, _, _, _, _, _, _, _]) (s2 := (49, [(0, .ref 1), (1, .int v1)], [.int 0, .ref (3 + 1 + ((si (si (si σ 2 (σ.1 1 0).toNatClampNeg v1) 12 ((si σ 2 (σ.1 1 0).toNatClampNeg v1).1 1 0).toNatClampNeg 0) 13 ((si (si σ 2 (σ.1 1 0).toNatClampNeg v1) 12 ((si σ 2 (σ.1 1 0).toNatClampNeg v1).1 1 0).toNatClampNeg 0).1 1 0).toNatClampNeg 1).1 1 0).toNatClampNeg)], si (si (si σ 2 (σ.1 1 0).toNatClampNeg v1) 12 ((si σ 2 (σ.1 1 0).toNatClampNeg v1).1 1 0).toNatClampNeg 0) 13 ((si (si σ 2 (σ.1 1 0).toNatClampNeg v1) 12 ((si σ 2 (σ.1 1 0).toNatClampNeg v1).1 1 0).toNatClampNeg 0).1 1 0).toNatClampNeg 1)) 1 rfl rfl (conj_c (rfl) (conj_c (rfl) (conj_c (⟨rfl, inB_in g1⟩) (conj_c (rfl) (conj_c (rfl) (conj_c (⟨rfl, inB_in g2⟩) (conj_c (rfl) (conj_c (rfl) (conj_c (⟨rfl, inB_in g3⟩) (conj_c (rfl) (conj_c (rfl) (conj_c (⟨Or.inl rfl, inB_in g4⟩) (trivial))))))))))))) ?_
    obtain ⟨r5, σ5, hc, h⟩ := bd_some h
    refine Rc.call (Ev.mono d) (v := none) (as := [.ref (3 + 1 + ((si (si (si σ 2 (σ.1 1 0).toNatClampNeg v1) 12 ((si σ 2 (σ.1 1 0).toNatClampNeg v1).1 1 0).toNatClampNeg 0) 13 ((si (si σ 2 (σ.1 1 0).toNatClampNeg v1) 12 ((si σ 2 (σ.1 1 0).toNatClampNeg v1).1 1 0).toNatClampNeg 0).1 1 0).toNatClampNeg 1).1 1 0).toNatClampNeg), .int 0]) (r := []) 2 rfl rfl rfl rfl (Nat.le_of_ble_eq_true rfl) (j_fillAII_x_ok (by omega) hc) ?_
    show Rc _ _ _ (52, [(0, .ref 1), (1, .int v1)], [], σ5) _
    refine Rc.blk (c := [_, _, _]) (s2 := (62, [(0, .ref 1), (1, .int v1)], [], si σ5 1 0 ((σ5.1 1 0) + 1))) 3 rfl rfl (conj_c (rfl) (conj_c (rfl) (conj_c (rfl) (trivial)))) ?_
    refine Rc.pick [] (lv2 := []) rfl ?_
    exact j_add_1_b62_ok hd _ _ _ h
set_option maxRecDepth 100000 in
theorem j_bringUp_62_H25_ok {d : Nat} (hd : 0 ≤ d) {k25 : Int32 → Int32 → Sg → Option (Int32 × Sg)} (hk25 : ∀ (v2 : Int32) (v3 : Int32) (σ : Sg) (r : Int32) (σ2 : Sg), k25 v2 v3 σ = some (r, σ2) → Rc none (Ev MT CT d) sg5 (25, [(0, .ref 62), (2, .int v2), (3, .int v3)], [], σ) (fun v s => v = some (.int r) ∧ s = σ2)) (v2 : Int32) (v3 : Int32) (σ : Sg) (r : Int32) (σ2 : Sg) (h : j_bringUp_62_H25 k25 v2 v3 σ = some (r, σ2)) : Rc none (Ev MT CT d) sg5 (25, [(0, .ref 62), (2, .int v2), (3, .int v3)], [], σ) (fun v s => v = some (.int r) ∧ s = σ2) := by
  unfold j_bringUp_62_H25 at h
  refine Rc.blk (c := [_]) (s2 := (if (σ.1 62 2) ≤ v3 then 81 else 33, [(0, .ref 62), (2, .int v2), (3, .int v3)], [], σ)) 4 rfl rfl (conj_c (rfl) (trivial)) ?_
  by_cases c9 : (σ.1 62 2) ≤ v3
  · rw [if_pos c9] at h
    refine Rc.ifp c9 ?_
    refine Rc.blk (c := []) (s2 := (82, [(0, .ref 62), (2, .int v2), (3, .int v3)], [.int 1], σ)) 6 rfl rfl (trivial) ?_
    obtain ⟨rfl, rfl⟩ := some_pair h
    exact Rc.ret 7 rfl rfl rfl (Or.inr rfl) ⟨rfl, rfl⟩
  · rw [if_neg c9] at h
    refine Rc.ifn c9 ?_
    obtain ⟨g1, h⟩ := gd_some h
    obtain ⟨g2, h⟩ := gd_some h
    obtain ⟨g3, h⟩ := gd_some h
    obtain ⟨g4, h⟩ := gd_some h
    obtain ⟨g5, h⟩ := gd_some h
    obtain ⟨g6, h⟩ := gd_some h
    obtain ⟨g7, h⟩ := gd_some h
    obtain ⟨g8, h⟩ := gd_some h
    refine Rc.blk (c := [_, _, _, _, _, _, _, _, _, _, _, _, _, _]) (s2 := (25, [(3, .int (v3 + 1)), (4, .long (σ.2 (63 + 1 + v2.toNatClampNeg) v3.toNatClampNeg)), (0, .ref 62), (2, .int v2)], [], sl (sl σ (63 + 1 + v2.toNatClampNeg) v3.toNatClampNeg (σ.2 (63 + 1 + (σ.1 62 3).toNatClampNeg) v3.toNatClampNeg)) (63 + 1 + ((sl σ (63 + 1 + v2.toNatClampNeg) v3.toNatClampNeg (σ.2 (63 + 1 + (σ.1 62 3).toNatClampNeg) v3.toNatClampNeg)).1 62 3).toNatClampNeg) v3.toNatClampNeg (σ.2 (63 + 1 + v2.toNatClampNeg) v3.toNatClampNeg))) 5 rfl rfl (conj_c (rfl) (conj_c (⟨Or.inr rfl, inB_in g1⟩) (conj_c (arB_in g2) (conj_c (rfl) (conj_c (⟨Or.inr rfl, inB_in g3⟩) (conj_c (rfl) (conj_c (rfl) (conj_c (⟨Or.inr rfl, inB_in g4⟩) (conj_c (arB_in g5) (conj_c (arB_in g6) (conj_c (rfl) (conj_c (rfl) (conj_c (⟨Or.inr rfl, inB_in g7⟩) (conj_c (arB_in g8) (trivial))))))))))))))) ?_
    refine Rc.pick [2, 3, 0] (lv2 := [(0, .ref 62), (2, .int v2), (3, .int (v3 + 1))]) rfl ?_
    exact hk25 _ _ _ _ _ h
theorem j_bringUp_62_L25_ok {d : Nat} (hd : 0 ≤ d) : ∀ (n : Nat) (v2 : Int32) (v3 : Int32) (σ : Sg) (r : Int32) (σ2 : Sg), j_bringUp_62_L25 n v2 v3 σ = some (r, σ2) → Rc none (Ev MT CT d) sg5 (25, [(0, .ref 62), (2, .int v2), (3, .int v3)], [], σ) (fun v s => v = some (.int r) ∧ s = σ2)
  | 0, _, _, _, _, _, h => by cases h
  | n + 1, v2, v3, σ, r, σ2, h => j_bringUp_62_H25_ok hd (j_bringUp_62_L25_ok hd n) v2 v3 σ r σ2 h
theorem j_bringUp_62_H5_ok {d : Nat} (hd : 0 ≤ d) {k5 : Int32 → Int32 → Sg → Option (Int32 × Sg)} (hk5 : ∀ (v1 : Int32) (v2 : Int32) (σ : Sg) (r : Int32) (σ2 : Sg), k5 v1 v2 σ = some (r, σ2) → Rc none (Ev MT CT d) sg5 (5, [(0, .ref 62), (1, .int v1), (2, .int v2)], [], σ) (fun v s => v = some (.int r) ∧ s = σ2)) (v1 : Int32) (v2 : Int32) (σ : Sg) (r : Int32) (σ2 : Sg) (h : j_bringUp_62_H5 k5 v1 v2 σ = some (r, σ2)) : Rc none (Ev MT CT d) sg5 (5, [(0, .ref 62), (1, .int v1), (2, .int v2)], [], σ) (fun v s => v = some (.int r) ∧ s = σ2) := by
  unfold j_bringUp_62_H5 at h
  refine Rc.blk (c := []) (s2 := (if 5 ≤ v2 then 89 else 10, [(0, .ref 62), (1, .int v1), (2, .int v2)], [], σ)) 1 rfl rfl (trivial) ?_
  by_cases c4 : 5 ≤ v2
  · rw [if_pos c4] at h
    refine Rc.ifp c4 ?_
    refine Rc.blk (c := []) (s2 := (90, [(0, .ref 62), (1, .int v1), (2, .int v2)], [.int 0], σ)) 9 rfl rfl (trivial) ?_
    obtain ⟨rfl, rfl⟩ := some_pair h
    exact Rc.ret 10 rfl rfl rfl (Or.inl rfl) ⟨rfl, rfl⟩
  · rw [if_neg c4] at h
    refine Rc.ifn c4 ?_
    obtain ⟨g1, h⟩ := gd_some h
    obtain ⟨g2, h⟩ := gd_some h
    refine Rc.blk (c := [_, _, _]) (s2 := (if (lg_cmp (σ.2 (63 + 1 + v2.toNatClampNeg) v1.toNatClampNeg) 0) = 0 then 83 else 23, [(0, .ref 62), (1, .int v1), (2, .int v2)], [], σ)) 2 rfl rfl (conj_c (rfl) (conj_c (⟨Or.inr rfl, inB_in g1⟩) (conj_c (arB_in g2) (trivial)))) ?_
    by_cases c3 : (lg_cmp (σ.2 (63 + 1 + v2.toNatClampNeg) v1.toNatClampNeg) 0) = 0
    · rw [if_pos c3] at h
      refine Rc.ifp c3 ?_
      refine Rc.blk (c := []) (s2 := (5, [(2, .int (v2 + 1)), (0, .ref 62), (1, .int v1)], [], σ)) 8 rfl rfl (trivial) ?_
      refine Rc.pick [1, 2, 0] (lv2 := [(0, .ref 62), (1, .int v1), (2, .int (v2 + 1))]) rfl ?_
      exact hk5 _ _ _ _ _ h
    · rw [if_neg c3] at h
      refine Rc.ifn c3 ?_
      refine Rc.blk (c := []) (s2 := (25, [(3, .int 0), (0, .ref 62), (1, .int v1), (2, .int v2)], [], σ)) 3 rfl rfl (trivial) ?_
      refine Rc.pick [1, 3, 0] (lv2 := [(0, .ref 62), (2, .int v2), (3, .int 0)]) rfl ?_
      exact j_bringUp_62_L25_ok hd fu _ _ _ _ _ h
theorem j_bringUp_62_L5_ok {d : Nat} (hd : 0 ≤ d) : ∀ (n : Nat) (v1 : Int32) (v2 : Int32) (σ : Sg) (r : Int32) (σ2 : Sg), j_bringUp_62_L5 n v1 v2 σ = some (r, σ2) → Rc none (Ev MT CT d) sg5 (5, [(0, .ref 62), (1, .int v1), (2, .int v2)], [], σ) (fun v s => v = some (.int r) ∧ s = σ2)
  | 0, _, _, _, _, _, h => by cases h
  | n + 1, v1, v2, σ, r, σ2, h => j_bringUp_62_H5_ok hd (j_bringUp_62_L5_ok hd n) v1 v2 σ r σ2 h
theorem j_bringUp_62_ok {d : Nat} (hd : 1 ≤ d) {v1 : Int32} {σ : Sg} {r : Int32} {σ2 : Sg} (h : j_bringUp_62 v1 σ = some (r, σ2)) : Ev MT CT d 5 [.ref 62, .int v1] σ (fun v s => v = some (.int r) ∧ s = σ2) := by
  obtain ⟨d, rfl⟩ : ∃ e, d = e + 1 := ⟨d - 1, by omega⟩
  refine ⟨Nat.le_of_ble_eq_true rfl, ?_⟩
  show Rc none (Ev MT CT d) sg5 (0, [(0, .ref 62), (1, .int v1)], [], σ) _
  unfold j_bringUp_62 at h
  have hd : 0 ≤ d := by omega
  refine Rc.blk (c := [_]) (s2 := (5, [(2, .int (σ.1 62 3)), (0, .ref 62), (1, .int v1)], [], σ)) 0 rfl rfl (conj_c (rfl) (trivial)) ?_
  refine Rc.pick [1, 2, 0] (lv2 := [(0, .ref 62), (1, .int v1), (2, .int (σ.1 62 3))]) rfl ?_
  exact j_bringUp_62_L5_ok hd fu _ _ _ _ _ h
theorem j_clearOthers_62_b115_ok {d : Nat} (hd : 0 ≤ d) {k15 : Int32 → Int64 → Int32 → Sg → Option (Unit × Sg)} (hk15 : ∀ (v1 : Int32) (v2 : Int64) (v4 : Int32) (σ : Sg) (r : Unit) (σ2 : Sg), k15 v1 v2 v4 σ = some (r, σ2) → Rc none (Ev MT CT d) sg6 (15, [(0, .ref 62), (1, .int v1), (2, .long v2), (4, .int v4)], [], σ) (fun v s => v = none ∧ s = σ2)) (v1 : Int32) (v2 : Int64) (v4 : Int32) (σ : Sg) (r : Unit) (σ2 : Sg) (h : j_clearOthers_62_b115 k15 v1 v2 v4 σ = some (r, σ2)) : Rc none (Ev MT CT d) sg6 (115, [(0, .ref 62), (1, .int v1), (2, .long v2), (4, .int v4)], [], σ) (fun v s => v = none ∧ s = σ2) := by
  unfold j_clearOthers_62_b115 at h
  refine Rc.blk (c := []) (s2 := (15, [(4, .int (v4 + 1)), (0, .ref 62), (1, .int v1), (2, .long v2)], [], σ)) 7 rfl rfl (trivial) ?_
  refine Rc.pick [1, 2, 3, 0] (lv2 := [(0, .ref 62), (1, .int v1), (2, .long v2), (4, .int (v4 + 1))]) rfl ?_
  exact hk15 _ _ _ _ _ _ h
theorem j_clearOthers_62_H35_ok {d : Nat} (hd : 0 ≤ d) {k15 : Int32 → Int64 → Int32 → Sg → Option (Unit × Sg)} {k35 : Int32 → Int64 → Int32 → Int64 → Int32 → Sg → Option (Unit × Sg)} (hk15 : ∀ (v1 : Int32) (v2 : Int64) (v4 : Int32) (σ : Sg) (r : Unit) (σ2 : Sg), k15 v1 v2 v4 σ = some (r, σ2) → Rc none (Ev MT CT d) sg6 (15, [(0, .ref 62), (1, .int v1), (2, .long v2), (4, .int v4)], [], σ) (fun v s => v = none ∧ s = σ2)) (hk35 : ∀ (v1 : Int32) (v2 : Int64) (v4 : Int32) (v5 : Int64) (v7 : Int32) (σ : Sg) (r : Unit) (σ2 : Sg), k35 v1 v2 v4 v5 v7 σ = some (r, σ2) → Rc none (Ev MT CT d) sg6 (35, [(0, .ref 62), (1, .int v1), (2, .long v2), (4, .int v4), (5, .long v5), (7, .int v7)], [], σ) (fun v s => v = none ∧ s = σ2)) (v1 : Int32) (v2 : Int64) (v4 : Int32) (v5 : Int64) (v7 : Int32) (σ : Sg) (r : Unit) (σ2 : Sg) (h : j_clearOthers_62_H35 k15 k35 v1 v2 v4 v5 v7 σ = some (r, σ2)) : Rc none (Ev MT CT d) sg6 (35, [(0, .ref 62), (1, .int v1), (2, .long v2), (4, .int v4), (5, .long v5), (7, .int v7)], [], σ) (fun v s => v = none ∧ s = σ2) := by
  unfold j_clearOthers_62_H35 at h
  refine Rc.blk (c := [_]) (s2 := (if (σ.1 62 2) ≤ v7 then 115 else 44, [(0, .ref 62), (1, .int v1), (2, .long v2), (4, .int v4), (5, .long v5), (7, .int v7)], [], σ)) 3 rfl rfl (conj_c (rfl) (trivial)) ?_
  by_cases c10 : (σ.1 62 2) ≤ v7
  · rw [if_pos c10] at h
    refine Rc.ifp c10 ?_
    refine Rc.pick [0, 1, 2, 3] (lv2 := [(0, .ref 62), (1, .int v1), (2, .long v2), (4, .int v4)]) rfl ?_
    exact j_clearOthers_62_b115_ok hd hk15 _ _ _ _ _ _ h
  · rw [if_neg c10] at h
    refine Rc.ifn c10 ?_
    refine Rc.blk (c := [_]) (s2 := (if v4 = (σ.1 62 3) then 115 else 53, [(0, .ref 62), (1, .int v1), (2, .long v2), (4, .int v4), (5, .long v5), (7, .int v7)], [], σ)) 4 rfl rfl (conj_c (rfl) (trivial)) ?_
    by_cases c9 : v4 = (σ.1 62 3)
    · rw [if_pos c9] at h
      refine Rc.ifp c9 ?_
      refine Rc.pick [0, 1, 2, 3] (lv2 := [(0, .ref 62), (1, .int v1), (2, .long v2), (4, .int v4)]) rfl ?_
      exact j_clearOthers_62_b115_ok hd hk15 _ _ _ _ _ _ h
    · rw [if_neg c9] at h
      refine Rc.ifn c9 ?_
      refine Rc.blk (c := [_]) (s2 := (if (lg_cmp (σ.2 62 5) 0) = 0 then 115 else 62, [(0, .ref 62), (1, .int v1), (2, .long v2), (4, .int v4), (5, .long v5), (7, .int v7)], [], σ)) 5 rfl rfl (conj_c (rfl) (trivial)) ?_
      by_cases c8 : (lg_cmp (σ.2 62 5) 0) = 0
      · rw [if_pos c8] at h
        refine Rc.ifp c8 ?_
        refine Rc.pick [0, 1, 2, 3] (lv2 := [(0, .ref 62), (1, .int v1), (2, .long v2), (4, .int v4)]) rfl ?_
        exact j_clearOthers_62_b115_ok hd hk15 _ _ _ _ _ _ h
      · rw [if_neg c8] at h
        refine Rc.ifn c8 ?_
        obtain ⟨g1, h⟩ := gd_some h
        obtain ⟨g2, h⟩ := gd_some h
        obtain ⟨g3, h⟩ := gd_some h
        obtain ⟨g4, h⟩ := gd_some h
        obtain ⟨g5, h⟩ := gd_some h
        obtain ⟨g6, h⟩ := gd_some h
        obtain ⟨g7, h⟩ := gd_some h
        refine Rc.blk (c := [_, _, _, _, _, _, _, _, _, _, _, _]) (s2 := (35, [(7, .int (v7 + 1)), (8, .long ((σ.2 (63 + 1 + v4.toNatClampNeg) v7.toNatClampNeg) * v2)), (0, .ref 62), (1, .int v1), (2, .long v2), (4, .int v4), (5, .long v5)], [], sl σ (63 + 1 + v4.toNatClampNeg) v7.toNatClampNeg ((((σ.2 (63 + 1 + v4.toNatClampNeg) v7.toNatClampNeg) * v2) - (v5 * (σ.2 (63 + 1 + (σ.1 62 3).toNatClampNeg) v7.toNatClampNeg))) / (σ.2 62 5)))) 6 rfl rfl (conj_c (rfl) (conj_c (⟨Or.inr rfl, inB_in g1⟩) (conj_c (arB_in g2) (conj_c (rfl) (conj_c (⟨Or.inr rfl, inB_in g3⟩) (conj_c (rfl) (conj_c (rfl) (conj_c (⟨Or.inr rfl, inB_in g4⟩) (conj_c (arB_in g5) (conj_c (rfl) (conj_c (neBL_ne g6) (conj_c (arB_in g7) (trivial))))))))))))) ?_
        refine Rc.pick [2, 3, 4, 5, 6, 0] (lv2 := [(0, .ref 62), (1, .int v1), (2, .long v2), (4, .int v4), (5, .long v5), (7, .int (v7 + 1))]) rfl ?_
        exact hk35 _ _ _ _ _ _ _ _ h
theorem j_clearOthers_62_L35_ok {d : Nat} (hd : 0 ≤ d) {k15 : Int32 → Int64 → Int32 → Sg → Option (Unit × Sg)} (hk15 : ∀ (v1 : Int32) (v2 : Int64) (v4 : Int32) (σ : Sg) (r : Unit) (σ2 : Sg), k15 v1 v2 v4 σ = some (r, σ2) → Rc none (Ev MT CT d) sg6 (15, [(0, .ref 62), (1, .int v1), (2, .long v2), (4, .int v4)], [], σ) (fun v s => v = none ∧ s = σ2)) : ∀ (n : Nat) (v1 : Int32) (v2 : Int64) (v4 : Int32) (v5 : Int64) (v7 : Int32) (σ : Sg) (r : Unit) (σ2 : Sg), j_clearOthers_62_L35 k15 n v1 v2 v4 v5 v7 σ = some (r, σ2) → Rc none (Ev MT CT d) sg6 (35, [(0, .ref 62), (1, .int v1), (2, .long v2), (4, .int v4), (5, .long v5), (7, .int v7)], [], σ) (fun v s => v = none ∧ s = σ2)
  | 0, _, _, _, _, _, _, _, _, h => by cases h
  | n + 1, v1, v2, v4, v5, v7, σ, r, σ2, h => j_clearOthers_62_H35_ok hd hk15 (j_clearOthers_62_L35_ok hd hk15 n) v1 v2 v4 v5 v7 σ r σ2 h
theorem j_clearOthers_62_H15_ok {d : Nat} (hd : 0 ≤ d) {k15 : Int32 → Int64 → Int32 → Sg → Option (Unit × Sg)} (hk15 : ∀ (v1 : Int32) (v2 : Int64) (v4 : Int32) (σ : Sg) (r : Unit) (σ2 : Sg), k15 v1 v2 v4 σ = some (r, σ2) → Rc none (Ev MT CT d) sg6 (15, [(0, .ref 62), (1, .int v1), (2, .long v2), (4, .int v4)], [], σ) (fun v s => v = none ∧ s = σ2)) (v1 : Int32) (v2 : Int64) (v4 : Int32) (σ : Sg) (r : Unit) (σ2 : Sg) (h : j_clearOthers_62_H15 k15 v1 v2 v4 σ = some (r, σ2)) : Rc none (Ev MT CT d) sg6 (15, [(0, .ref 62), (1, .int v1), (2, .long v2), (4, .int v4)], [], σ) (fun v s => v = none ∧ s = σ2) := by
  unfold j_clearOthers_62_H15 at h
  refine Rc.blk (c := []) (s2 := (if 5 ≤ v4 then 121 else 21, [(0, .ref 62), (1, .int v1), (2, .long v2), (4, .int v4)], [], σ)) 1 rfl rfl (trivial) ?_
  by_cases c3 : 5 ≤ v4
  · rw [if_pos c3] at h
    refine Rc.ifp c3 ?_
    refine Rc.blk (c := [_]) (s2 := (126, [(0, .ref 62), (1, .int v1), (2, .long v2), (4, .int v4)], [], sl σ 62 5 v2)) 8 rfl rfl (conj_c (rfl) (trivial)) ?_
    obtain ⟨rfl, rfl⟩ := some_pair h
    exact Rc.ret 9 rfl rfl rfl trivial ⟨rfl, rfl⟩
  · rw [if_neg c3] at h
    refine Rc.ifn c3 ?_
    obtain ⟨g1, h⟩ := gd_some h
    obtain ⟨g2, h⟩ := gd_some h
    refine Rc.blk (c := [_, _, _]) (s2 := (35, [(7, .int 0), (5, .long (σ.2 (63 + 1 + v4.toNatClampNeg) v1.toNatClampNeg)), (0, .ref 62), (1, .int v1), (2, .long v2), (4, .int v4)], [], σ)) 2 rfl rfl (conj_c (rfl) (conj_c (⟨Or.inr rfl, inB_in g1⟩) (conj_c (arB_in g2) (trivial)))) ?_
    refine Rc.pick [2, 3, 4, 5, 1, 0] (lv2 := [(0, .ref 62), (1, .int v1), (2, .long v2), (4, .int v4), (5, .long (σ.2 (63 + 1 + v4.toNatClampNeg) v1.toNatClampNeg)), (7, .int 0)]) rfl ?_
    exact j_clearOthers_62_L35_ok hd hk15 fu _ _ _ _ _ _ _ _ h
theorem j_clearOthers_62_L15_ok {d : Nat} (hd : 0 ≤ d) : ∀ (n : Nat) (v1 : Int32) (v2 : Int64) (v4 : Int32) (σ : Sg) (r : Unit) (σ2 : Sg), j_clearOthers_62_L15 n v1 v2 v4 σ = some (r, σ2) → Rc none (Ev MT CT d) sg6 (15, [(0, .ref 62), (1, .int v1), (2, .long v2), (4, .int v4)], [], σ) (fun v s => v = none ∧ s = σ2)
  | 0, _, _, _, _, _, _, h => by cases h
  | n + 1, v1, v2, v4, σ, r, σ2, h => j_clearOthers_62_H15_ok hd (j_clearOthers_62_L15_ok hd n) v1 v2 v4 σ r σ2 h
theorem j_clearOthers_62_ok {d : Nat} (hd : 1 ≤ d) {v1 : Int32} {σ : Sg} {r : Unit} {σ2 : Sg} (h : j_clearOthers_62 v1 σ = some (r, σ2)) : Ev MT CT d 6 [.ref 62, .int v1] σ (fun v s => v = none ∧ s = σ2) := by
  obtain ⟨d, rfl⟩ : ∃ e, d = e + 1 := ⟨d - 1, by omega⟩
  refine ⟨Nat.le_of_ble_eq_true rfl, ?_⟩
  show Rc none (Ev MT CT d) sg6 (0, [(0, .ref 62), (1, .int v1)], [], σ) _
  unfold j_clearOthers_62 at h
  have hd : 0 ≤ d := by omega
  obtain ⟨g1, h⟩ := gd_some h
  obtain ⟨g2, h⟩ := gd_some h
  refine Rc.blk (c := [_, _, _, _]) (s2 := (15, [(4, .int 0), (2, .long (σ.2 (63 + 1 + (σ.1 62 3).toNatClampNeg) v1.toNatClampNeg)), (0, .ref 62), (1, .int v1)], [], σ)) 0 rfl rfl (conj_c (rfl) (conj_c (rfl) (conj_c (⟨Or.inr rfl, inB_in g1⟩) (conj_c (arB_in g2) (trivial))))) ?_
  refine Rc.pick [2, 3, 1, 0] (lv2 := [(0, .ref 62), (1, .int v1), (2, .long (σ.2 (63 + 1 + (σ.1 62 3).toNatClampNeg) v1.toNatClampNeg)), (4, .int 0)]) rfl ?_
  exact j_clearOthers_62_L15_ok hd fu _ _ _ _ _ _ h
theorem j_bit_s_ok {d : Nat} (hd : 1 ≤ d) {v0 : Int32} {v1 : Int32} {σ : Sg} {r : Int32} {σ2 : Sg} (h : j_bit_s v0 v1 σ = some (r, σ2)) : Ev MT CT d 112 [.int v0, .int v1] σ (fun v s => v = some (.int r) ∧ s = σ2) := by
  obtain ⟨d, rfl⟩ : ∃ e, d = e + 1 := ⟨d - 1, by omega⟩
  refine ⟨Nat.le_of_ble_eq_true rfl, ?_⟩
  show Rc none (Ev MT CT d) sg112 (0, [(0, .int v0), (1, .int v1)], [], σ) _
  unfold j_bit_s at h
  have hd : 0 ≤ d := by omega
  refine Rc.blk (c := []) (s2 := (5, [(0, .int v0), (1, .int v1)], [.int ((v0 >>> (v1 &&& 31)) &&& 1)], σ)) 0 rfl rfl (trivial) ?_
  obtain ⟨rfl, rfl⟩ := some_pair h
  exact Rc.ret 1 rfl rfl rfl trivial ⟨rfl, rfl⟩
theorem j_run_62_52_b142_ok {d : Nat} (hd : 1 ≤ d) {k74 : Int32 → Int32 → Sg → Option (Unit × Sg)} (hk74 : ∀ (v3 : Int32) (v4 : Int32) (σ : Sg) (r : Unit) (σ2 : Sg), k74 v3 v4 σ = some (r, σ2) → Rc none (Ev MT CT d) sg4 (74, [(0, .ref 62), (3, .int v3), (4, .int v4)], [], σ) (fun v s => v = none ∧ s = σ2)) (v3 : Int32) (v4 : Int32) (σ : Sg) (r : Unit) (σ2 : Sg) (h : j_run_62_52_b142 k74 v3 v4 σ = some (r, σ2)) : Rc none (Ev MT CT d) sg4 (142, [(0, .ref 62), (3, .int v3), (4, .int v4)], [], σ) (fun v s => v = none ∧ s = σ2) := by
  unfold j_run_62_52_b142 at h
  refine Rc.blk (c := []) (s2 := (74, [(4, .int (v4 + 1)), (0, .ref 62), (3, .int v3)], [], σ)) 17 rfl rfl (trivial) ?_
  refine Rc.pick [1, 2, 0] (lv2 := [(0, .ref 62), (3, .int v3), (4, .int (v4 + 1))]) rfl ?_
  exact hk74 _ _ _ _ _ h
theorem j_run_62_52_H74_ok {d : Nat} (hd : 1 ≤ d) {k74 : Int32 → Int32 → Sg → Option (Unit × Sg)} (hk74 : ∀ (v3 : Int32) (v4 : Int32) (σ : Sg) (r : Unit) (σ2 : Sg), k74 v3 v4 σ = some (r, σ2) → Rc none (Ev MT CT d) sg4 (74, [(0, .ref 62), (3, .int v3), (4, .int v4)], [], σ) (fun v s => v = none ∧ s = σ2)) (v3 : Int32) (v4 : Int32) (σ : Sg) (r : Unit) (σ2 : Sg) (h : j_run_62_52_H74 k74 v3 v4 σ = some (r, σ2)) : Rc none (Ev MT CT d) sg4 (74, [(0, .ref 62), (3, .int v3), (4, .int v4)], [], σ) (fun v s => v = none ∧ s = σ2) := by
  unfold j_run_62_52_H74 at h
  refine Rc.blk (c := [_]) (s2 := (if (σ.1 62 2) ≤ v4 then 148 else 83, [(0, .ref 62), (3, .int v3), (4, .int v4)], [], σ)) 7 rfl rfl (conj_c (rfl) (trivial)) ?_
  by_cases c7 : (σ.1 62 2) ≤ v4
  · rw [if_pos c7] at h
    refine Rc.ifp c7 ?_
    obtain ⟨rfl, rfl⟩ := some_pair h
    exact Rc.ret 18 rfl rfl rfl trivial ⟨rfl, rfl⟩
  · rw [if_neg c7] at h
    refine Rc.ifn c7 ?_
    refine Rc.blk (c := []) (s2 := (86, [(0, .ref 62), (3, .int v3), (4, .int v4)], [.int v4, .int v3], σ)) 8 rfl rfl (trivial) ?_
    obtain ⟨r1, σ1, hc, h⟩ := bd_some h
    refine Rc.call (Ev.mono d) (v := some (.int r1)) (as := [.int v3, .int v4]) (r := []) 9 rfl rfl rfl rfl (Nat.le_of_ble_eq_true rfl) (j_bit_s_ok (by omega) hc) ?_
    show Rc _ _ _ (89, [(0, .ref 62), (3, .int v3), (4, .int v4)], [.int r1], σ1) _
    refine Rc.blk (c := []) (s2 := (if ¬ r1 = 1 then 142 else 93, [(0, .ref 62), (3, .int v3), (4, .int v4)], [], σ1)) 10 rfl rfl (trivial) ?_
    by_cases c6 : r1 = 1
    · rw [if_pos c6] at h
      refine Rc.ifn (fun q => q c6) ?_
      refine Rc.blk (c := []) (s2 := (96, [(0, .ref 62), (3, .int v3), (4, .int v4)], [.int v4, .ref 62], σ1)) 11 rfl rfl (trivial) ?_
      obtain ⟨r2, σ2, hc, h⟩ := bd_some h
      refine Rc.call (Ev.mono d) (v := some (.int r2)) (as := [.ref 62, .int v4]) (r := []) 12 rfl rfl rfl rfl ⟨rfl, Nat.le_of_ble_eq_true rfl⟩ (j_bringUp_62_ok (by omega) hc) ?_
      show Rc _ _ _ (99, [(0, .ref 62), (3, .int v3), (4, .int v4)], [.int r2], σ2) _
      refine Rc.blk (c := []) (s2 := (if r2 = 0 then 142 else 102, [(0, .ref 62), (3, .int v3), (4, .int v4)], [], σ2)) 13 rfl rfl (trivial) ?_
      by_cases c5 : r2 = 0
      · rw [if_pos c5] at h
        refine Rc.ifp c5 ?_
        exact j_run_62_52_b142_ok hd hk74 _ _ _ _ _ h
      · rw [if_neg c5] at h
        refine Rc.ifn c5 ?_
        refine Rc.blk (c := []) (s2 := (105, [(0, .ref 62), (3, .int v3), (4, .int v4)], [.int v4, .ref 62], σ2)) 14 rfl rfl (trivial) ?_
        obtain ⟨r3, σ3, hc, h⟩ := bd_some h
        refine Rc.call (Ev.mono d) (v := none) (as := [.ref 62, .int v4]) (r := []) 15 rfl rfl rfl rfl ⟨rfl, Nat.le_of_ble_eq_true rfl⟩ (j_clearOthers_62_ok (by omega) hc) ?_
        show Rc _ _ _ (108, [(0, .ref 62), (3, .int v3), (4, .int v4)], [], σ3) _
        obtain ⟨g4, h⟩ := gd_some h
        refine Rc.blk (c := [_, _, _, _, _, _, _, _, _]) (s2 := (142, [(0, .ref 62), (3, .int v3), (4, .int v4)], [], si (si (si σ3 69 v4.toNatClampNeg (σ3.1 62 3)) 62 4 (((si σ3 69 v4.toNatClampNeg (σ3.1 62 3)).1 62 4) ||| ((1 : Int32) <<< (v4 &&& 31)))) 62 3 (((si (si σ3 69 v4.toNatClampNeg (σ3.1 62 3)) 62 4 (((si σ3 69 v4.toNatClampNeg (σ3.1 62 3)).1 62 4) ||| ((1 : Int32) <<< (v4 &&& 31)))).1 62 3) + 1))) 16 rfl rfl (conj_c (rfl) (conj_c (rfl) (conj_c (⟨rfl, inB_in g4⟩) (conj_c (rfl) (conj_c (rfl) (conj_c (rfl) (conj_c (rfl) (conj_c (rfl) (conj_c (rfl) (trivial)))))))))) ?_
        exact j_run_62_52_b142_ok hd hk74 _ _ _ _ _ h
    · rw [if_neg c6] at h
      refine Rc.ifp c6 ?_
      exact j_run_62_52_b142_ok hd hk74 _ _ _ _ _ h
theorem j_run_62_52_L74_ok {d : Nat} (hd : 1 ≤ d) : ∀ (n : Nat) (v3 : Int32) (v4 : Int32) (σ : Sg) (r : Unit) (σ2 : Sg), j_run_62_52_L74 n v3 v4 σ = some (r, σ2) → Rc none (Ev MT CT d) sg4 (74, [(0, .ref 62), (3, .int v3), (4, .int v4)], [], σ) (fun v s => v = none ∧ s = σ2)
  | 0, _, _, _, _, _, h => by cases h
  | n + 1, v3, v4, σ, r, σ2, h => j_run_62_52_H74_ok hd (j_run_62_52_L74_ok hd n) v3 v4 σ r σ2 h
set_option maxRecDepth 100000 in
theorem j_run_62_52_H32_ok {d : Nat} (hd : 1 ≤ d) {k23 : Int32 → Int32 → Sg → Option (Unit × Sg)} {k32 : Int32 → Int32 → Int32 → Sg → Option (Unit × Sg)} (hk23 : ∀ (v3 : Int32) (v4 : Int32) (σ : Sg) (r : Unit) (σ2 : Sg), k23 v3 v4 σ = some (r, σ2) → Rc none (Ev MT CT d) sg4 (23, [(0, .ref 62), (1, .ref 52), (3, .int v3), (4, .int v4)], [], σ) (fun v s => v = none ∧ s = σ2)) (hk32 : ∀ (v3 : Int32) (v4 : Int32) (v5 : Int32) (σ : Sg) (r : Unit) (σ2 : Sg), k32 v3 v4 v5 σ = some (r, σ2) → Rc none (Ev MT CT d) sg4 (32, [(0, .ref 62), (1, .ref 52), (3, .int v3), (4, .int v4), (5, .int v5)], [], σ) (fun v s => v = none ∧ s = σ2)) (v3 : Int32) (v4 : Int32) (v5 : Int32) (σ : Sg) (r : Unit) (σ2 : Sg) (h : j_run_62_52_H32 k23 k32 v3 v4 v5 σ = some (r, σ2)) : Rc none (Ev MT CT d) sg4 (32, [(0, .ref 62), (1, .ref 52), (3, .int v3), (4, .int v4), (5, .int v5)], [], σ) (fun v s => v = none ∧ s = σ2) := by
  unfold j_run_62_52_H32 at h
  refine Rc.blk (c := [_]) (s2 := (if (σ.1 62 2) ≤ v5 then 65 else 41, [(0, .ref 62), (1, .ref 52), (3, .int v3), (4, .int v4), (5, .int v5)], [], σ)) 3 rfl rfl (conj_c (rfl) (trivial)) ?_
  by_cases c5 : (σ.1 62 2) ≤ v5
  · rw [if_pos c5] at h
    refine Rc.ifp c5 ?_
    refine Rc.blk (c := []) (s2 := (23, [(4, .int (v4 + 1)), (0, .ref 62), (1, .ref 52), (3, .int v3), (5, .int v5)], [], σ)) 5 rfl rfl (trivial) ?_
    refine Rc.pick [1, 2, 3, 0] (lv2 := [(0, .ref 62), (1, .ref 52), (3, .int v3), (4, .int (v4 + 1))]) rfl ?_
    exact hk23 _ _ _ _ _ h
  · rw [if_neg c5] at h
    refine Rc.ifn c5 ?_
    obtain ⟨g1, h⟩ := gd_some h
    obtain ⟨g2, h⟩ := gd_some h
    obtain ⟨g3, h⟩ := gd_some h
    obtain ⟨g4, h⟩ := gd_some h
    refine Rc.blk (c := [_, _, _, _, _]) (s2 := (32, [(5, .int (v5 + 1)), (0, .ref 62), (1, .ref 52), (3, .int v3), (4, .int v4)], [], sl σ (63 + 1 + v4.toNatClampNeg) v5.toNatClampNeg ((σ.1 (52 + 1 + v5.toNatClampNeg) v4.toNatClampNeg).toInt64))) 4 rfl rfl (conj_c (rfl) (conj_c (⟨Or.inr rfl, inB_in g1⟩) (conj_c (⟨Or.inl rfl, inB_in g2⟩) (conj_c (arB_in g3) (conj_c (arB_in g4) (trivial)))))) ?_
    refine Rc.pick [1, 2, 3, 4, 0] (lv2 := [(0, .ref 62), (1, .ref 52), (3, .int v3), (4, .int v4), (5, .int (v5 + 1))]) rfl ?_
    exact hk32 _ _ _ _ _ _ h
theorem j_run_62_52_L32_ok {d : Nat} (hd : 1 ≤ d) {k23 : Int32 → Int32 → Sg → Option (Unit × Sg)} (hk23 : ∀ (v3 : Int32) (v4 : Int32) (σ : Sg) (r : Unit) (σ2 : Sg), k23 v3 v4 σ = some (r, σ2) → Rc none (Ev MT CT d) sg4 (23, [(0, .ref 62), (1, .ref 52), (3, .int v3), (4, .int v4)], [], σ) (fun v s => v = none ∧ s = σ2)) : ∀ (n : Nat) (v3 : Int32) (v4 : Int32) (v5 : Int32) (σ : Sg) (r : Unit) (σ2 : Sg), j_run_62_52_L32 k23 n v3 v4 v5 σ = some (r, σ2) → Rc none (Ev MT CT d) sg4 (32, [(0, .ref 62), (1, .ref 52), (3, .int v3), (4, .int v4), (5, .int v5)], [], σ) (fun v s => v = none ∧ s = σ2)
  | 0, _, _, _, _, _, _, h => by cases h
  | n + 1, v3, v4, v5, σ, r, σ2, h => j_run_62_52_H32_ok hd hk23 (j_run_62_52_L32_ok hd hk23 n) v3 v4 v5 σ r σ2 h
theorem j_run_62_52_H23_ok {d : Nat} (hd : 1 ≤ d) {k23 : Int32 → Int32 → Sg → Option (Unit × Sg)} (hk23 : ∀ (v3 : Int32) (v4 : Int32) (σ : Sg) (r : Unit) (σ2 : Sg), k23 v3 v4 σ = some (r, σ2) → Rc none (Ev MT CT d) sg4 (23, [(0, .ref 62), (1, .ref 52), (3, .int v3), (4, .int v4)], [], σ) (fun v s => v = none ∧ s = σ2)) (v3 : Int32) (v4 : Int32) (σ : Sg) (r : Unit) (σ2 : Sg) (h : j_run_62_52_H23 k23 v3 v4 σ = some (r, σ2)) : Rc none (Ev MT CT d) sg4 (23, [(0, .ref 62), (1, .ref 52), (3, .int v3), (4, .int v4)], [], σ) (fun v s => v = none ∧ s = σ2) := by
  unfold j_run_62_52_H23 at h
  refine Rc.blk (c := []) (s2 := (if 5 ≤ v4 then 71 else 29, [(0, .ref 62), (1, .ref 52), (3, .int v3), (4, .int v4)], [], σ)) 1 rfl rfl (trivial) ?_
  by_cases c1 : 5 ≤ v4
  · rw [if_pos c1] at h
    refine Rc.ifp c1 ?_
    refine Rc.blk (c := []) (s2 := (74, [(4, .int 0), (0, .ref 62), (1, .ref 52), (3, .int v3)], [], σ)) 6 rfl rfl (trivial) ?_
    refine Rc.pick [1, 3, 0] (lv2 := [(0, .ref 62), (3, .int v3), (4, .int 0)]) rfl ?_
    exact j_run_62_52_L74_ok hd fu _ _ _ _ _ h
  · rw [if_neg c1] at h
    refine Rc.ifn c1 ?_
    refine Rc.blk (c := []) (s2 := (32, [(5, .int 0), (0, .ref 62), (1, .ref 52), (3, .int v3), (4, .int v4)], [], σ)) 2 rfl rfl (trivial) ?_
    refine Rc.pick [1, 2, 3, 4, 0] (lv2 := [(0, .ref 62), (1, .ref 52), (3, .int v3), (4, .int v4), (5, .int 0)]) rfl ?_
    exact j_run_62_52_L32_ok hd hk23 fu _ _ _ _ _ _ h
theorem j_run_62_52_L23_ok {d : Nat} (hd : 1 ≤ d) : ∀ (n : Nat) (v3 : Int32) (v4 : Int32) (σ : Sg) (r : Unit) (σ2 : Sg), j_run_62_52_L23 n v3 v4 σ = some (r, σ2) → Rc none (Ev MT CT d) sg4 (23, [(0, .ref 62), (1, .ref 52), (3, .int v3), (4, .int v4)], [], σ) (fun v s => v = none ∧ s = σ2)
  | 0, _, _, _, _, _, h => by cases h
  | n + 1, v3, v4, σ, r, σ2, h => j_run_62_52_H23_ok hd (j_run_62_52_L23_ok hd n) v3 v4 σ r σ2 h
theorem j_run_62_52_ok {d : Nat} (hd : 2 ≤ d) {v2 : Int32} {v3 : Int32} {σ : Sg} {r : Unit} {σ2 : Sg} (h : j_run_62_52 v2 v3 σ = some (r, σ2)) : Ev MT CT d 4 [.ref 62, .ref 52, .int v2, .int v3] σ (fun v s => v = none ∧ s = σ2) := by
  obtain ⟨d, rfl⟩ : ∃ e, d = e + 1 := ⟨d - 1, by omega⟩
  refine ⟨Nat.le_of_ble_eq_true rfl, ?_⟩
  show Rc none (Ev MT CT d) sg4 (0, [(0, .ref 62), (1, .ref 52), (2, .int v2), (3, .int v3)], [], σ) _
  unfold j_run_62_52 at h
  have hd : 1 ≤ d := by omega
  refine Rc.blk (c := [_, _, _, _]) (s2 := (23, [(4, .int 0), (0, .ref 62), (1, .ref 52), (2, .int v2), (3, .int v3)], [], sl (si (si (si σ 62 2 v2) 62 3 0) 62 4 0) 62 5 1)) 0 rfl rfl (conj_c (rfl) (conj_c (rfl) (conj_c (rfl) (conj_c (rfl) (trivial))))) ?_
  refine Rc.pick [1, 2, 4, 0] (lv2 := [(0, .ref 62), (1, .ref 52), (3, .int v3), (4, .int 0)]) rfl ?_
  exact j_run_62_52_L23_ok hd fu _ _ _ _ _ h
theorem j_keyOf_x_H11_ok {d : Nat} (hd : 0 ≤ d) {k11 : Int64 → Nat → Int32 → Int32 → Sg → Option (Int64 × Sg)} (hk11 : ∀ (v1 : Int64) (v3 : Nat) (v4 : Int32) (v5 : Int32) (σ : Sg) (r : Int64) (σ2 : Sg), k11 v1 v3 v4 v5 σ = some (r, σ2) → Rc none (Ev MT CT d) sg50 (11, [(1, .long v1), (3, .ref v3), (4, .int v4), (5, .int v5)], [], σ) (fun v s => v = some (.long r) ∧ s = σ2)) (v1 : Int64) (v3 : Nat) (v4 : Int32) (v5 : Int32) (σ : Sg) (r : Int64) (σ2 : Sg) (h : j_keyOf_x_H11 k11 v1 v3 v4 v5 σ = some (r, σ2)) : Rc none (Ev MT CT d) sg50 (11, [(1, .long v1), (3, .ref v3), (4, .int v4), (5, .int v5)], [], σ) (fun v s => v = some (.long r) ∧ s = σ2) := by
  unfold j_keyOf_x_H11 at h
  refine Rc.blk (c := []) (s2 := (if v4 ≤ v5 then 40 else 18, [(1, .long v1), (3, .ref v3), (4, .int v4), (5, .int v5)], [], σ)) 1 rfl rfl (trivial) ?_
  by_cases c2 : v4 ≤ v5
  · rw [if_pos c2] at h
    refine Rc.ifp c2 ?_
    refine Rc.blk (c := []) (s2 := (41, [(1, .long v1), (3, .ref v3), (4, .int v4), (5, .int v5)], [.long v1], σ)) 3 rfl rfl (trivial) ?_
    obtain ⟨rfl, rfl⟩ := some_pair h
    exact Rc.ret 4 rfl rfl rfl trivial ⟨rfl, rfl⟩
  · rw [if_neg c2] at h
    refine Rc.ifn c2 ?_
    obtain ⟨g1, h⟩ := gd_some h
    refine Rc.blk (c := [_]) (s2 := (11, [(5, .int (v5 + 1)), (1, .long ((v1 * 4096) + ((σ.1 v3 v5.toNatClampNeg).toInt64))), (6, .int (σ.1 v3 v5.toNatClampNeg)), (3, .ref v3), (4, .int v4)], [], σ)) 2 rfl rfl (conj_c (arB_in g1) (trivial)) ?_
    refine Rc.pick [1, 3, 4, 0] (lv2 := [(1, .long ((v1 * 4096) + ((σ.1 v3 v5.toNatClampNeg).toInt64))), (3, .ref v3), (4, .int v4), (5, .int (v5 + 1))]) rfl ?_
    exact hk11 _ _ _ _ _ _ _ h
theorem j_keyOf_x_L11_ok {d : Nat} (hd : 0 ≤ d) : ∀ (n : Nat) (v1 : Int64) (v3 : Nat) (v4 : Int32) (v5 : Int32) (σ : Sg) (r : Int64) (σ2 : Sg), j_keyOf_x_L11 n v1 v3 v4 v5 σ = some (r, σ2) → Rc none (Ev MT CT d) sg50 (11, [(1, .long v1), (3, .ref v3), (4, .int v4), (5, .int v5)], [], σ) (fun v s => v = some (.long r) ∧ s = σ2)
  | 0, _, _, _, _, _, _, _, h => by cases h
  | n + 1, v1, v3, v4, v5, σ, r, σ2, h => j_keyOf_x_H11_ok hd (j_keyOf_x_L11_ok hd n) v1 v3 v4 v5 σ r σ2 h
theorem j_keyOf_x_ok {d : Nat} (hd : 1 ≤ d) {v0 : Nat} {σ : Sg} {r : Int64} {σ2 : Sg} (h : j_keyOf_x v0 σ = some (r, σ2)) : Ev MT CT d 50 [.ref v0] σ (fun v s => v = some (.long r) ∧ s = σ2) := by
  obtain ⟨d, rfl⟩ : ∃ e, d = e + 1 := ⟨d - 1, by omega⟩
  refine ⟨Nat.le_of_ble_eq_true rfl, ?_⟩
  show Rc none (Ev MT CT d) sg50 (0, [(0, .ref v0)], [], σ) _
  unfold j_keyOf_x at h
  have hd : 0 ≤ d := by omega
  obtain ⟨g1, h⟩ := gd_some h
  refine Rc.blk (c := [_]) (s2 := (11, [(5, .int 0), (4, .int (Int32.ofNat (al v0))), (3, .ref v0), (1, .long 0), (0, .ref v0)], [], σ)) 0 rfl rfl (conj_c (ckB_lt g1) (trivial)) ?_
  refine Rc.pick [3, 2, 1, 0] (lv2 := [(1, .long 0), (3, .ref v0), (4, .int (Int32.ofNat (al v0))), (5, .int 0)]) rfl ?_
  exact j_keyOf_x_L11_ok hd fu _ _ _ _ _ _ _ h
set_option maxRecDepth 100000 in
theorem j_setPowers_x_x_H32_ok {d : Nat} (hd : 0 ≤ d) {k32 : Int32 → Nat → Int32 → Sg → Option (Unit × Sg)} (hk32 : ∀ (v0 : Int32) (v2 : Nat) (v3 : Int32) (σ : Sg) (r : Unit) (σ2 : Sg), k32 v0 v2 v3 σ = some (r, σ2) → Rc none (Ev MT CT d) sg49 (32, [(0, .int v0), (2, .ref v2), (3, .int v3)], [], σ) (fun v s => v = none ∧ s = σ2)) (v0 : Int32) (v2 : Nat) (v3 : Int32) (σ : Sg) (r : Unit) (σ2 : Sg) (h : j_setPowers_x_x_H32 k32 v0 v2 v3 σ = some (r, σ2)) : Rc none (Ev MT CT d) sg49 (32, [(0, .int v0), (2, .ref v2), (3, .int v3)], [], σ) (fun v s => v = none ∧ s = σ2) := by
  unfold j_setPowers_x_x_H32 at h
  refine Rc.blk (c := []) (s2 := (if 5 ≤ v3 then 54 else 37, [(0, .int v0), (2, .ref v2), (3, .int v3)], [], σ)) 1 rfl rfl (trivial) ?_
  by_cases c4 : 5 ≤ v3
  · rw [if_pos c4] at h
    refine Rc.ifp c4 ?_
    obtain ⟨rfl, rfl⟩ := some_pair h
    exact Rc.ret 3 rfl rfl rfl trivial ⟨rfl, rfl⟩
  · rw [if_neg c4] at h
    refine Rc.ifn c4 ?_
    obtain ⟨g1, h⟩ := gd_some h
    obtain ⟨g2, h⟩ := gd_some h
    obtain ⟨g3, h⟩ := gd_some h
    refine Rc.blk (c := [_, _, _, _]) (s2 := (32, [(3, .int (v3 + 1)), (0, .int v0), (2, .ref v2)], [], si σ v2 v3.toNatClampNeg ((σ.1 v2 v3.toNatClampNeg) * (sv 1003 v0.toNatClampNeg)))) 2 rfl rfl (conj_c (⟨rfl, rfl⟩) (conj_c (arB_in g1) (conj_c (⟨by decide, inB_in g2⟩) (conj_c (arB_in g3) (trivial))))) ?_
    refine Rc.pick [1, 2, 0] (lv2 := [(0, .int v0), (2, .ref v2), (3, .int (v3 + 1))]) rfl ?_
    exact hk32 _ _ _ _ _ _ h
theorem j_setPowers_x_x_L32_ok {d : Nat} (hd : 0 ≤ d) : ∀ (n : Nat) (v0 : Int32) (v2 : Nat) (v3 : Int32) (σ : Sg) (r : Unit) (σ2 : Sg), j_setPowers_x_x_L32 n v0 v2 v3 σ = some (r, σ2) → Rc none (Ev MT CT d) sg49 (32, [(0, .int v0), (2, .ref v2), (3, .int v3)], [], σ) (fun v s => v = none ∧ s = σ2)
  | 0, _, _, _, _, _, _, h => by cases h
  | n + 1, v0, v2, v3, σ, r, σ2, h => j_setPowers_x_x_H32_ok hd (j_setPowers_x_x_L32_ok hd n) v0 v2 v3 σ r σ2 h
theorem j_setPowers_x_x_ok {d : Nat} (hd : 1 ≤ d) {v0 : Int32} {v1 : Nat} {v2 : Nat} {σ : Sg} {r : Unit} {σ2 : Sg} (h : j_setPowers_x_x v0 v1 v2 σ = some (r, σ2)) : Ev MT CT d 49 [.int v0, .ref v1, .ref v2] σ (fun v s => v = none ∧ s = σ2) := by
  obtain ⟨d, rfl⟩ : ∃ e, d = e + 1 := ⟨d - 1, by omega⟩
  refine ⟨Nat.le_of_ble_eq_true rfl, ?_⟩
  show Rc none (Ev MT CT d) sg49 (0, [(0, .int v0), (1, .ref v1), (2, .ref v2)], [], σ) _
  unfold j_setPowers_x_x at h
  have hd : 0 ≤ d := by omega
  obtain ⟨g1, h⟩ := gd_some h
  obtain ⟨g2, h⟩ := gd_some h
  obtain ⟨g3, h⟩ := gd_some h
  obtain ⟨g4, h⟩ := gd_some h
  obtain ⟨g5, h⟩ := gd_some h
  obtain ⟨g6, h⟩ := gd_some h
  obtain ⟨g7, h⟩ := gd_some h
  refine Rc.blk (c := [_, _, _, _, _, _, _, _, _]) (s2 := (32, [(3, .int 0), (0, .int v0), (1, .ref v1), (2, .ref v2)], [], si (si (scp σ v1 v2 0 0 5) v2 1 (((scp σ v1 v2 0 0 5).1 v2 1) - (sv 1001 v0.toNatClampNeg))) v2 2 (((si (scp σ v1 v2 0 0 5) v2 1 (((scp σ v1 v2 0 0 5).1 v2 1) - (sv 1001 v0.toNatClampNeg))).1 v2 2) - (sv 1002 v0.toNatClampNeg)))) 0 rfl rfl (conj_c (cpB_ok (by decide) g1) (conj_c (⟨rfl, rfl⟩) (conj_c (arB_in g2) (conj_c (⟨by decide, inB_in g3⟩) (conj_c (arB_in g4) (conj_c (⟨rfl, rfl⟩) (conj_c (arB_in g5) (conj_c (⟨by decide, inB_in g6⟩) (conj_c (arB_in g7) (trivial)))))))))) ?_
  refine Rc.pick [1, 3, 0] (lv2 := [(0, .int v0), (2, .ref v2), (3, .int 0)]) rfl ?_
  exact j_setPowers_x_x_L32_ok hd fu _ _ _ _ _ _ h
theorem j_measure_51_1_H20_ok {d : Nat} (hd : 2 ≤ d) {k20 : Int32 → Sg → Option (Unit × Sg)} (hk20 : ∀ (v2 : Int32) (σ : Sg) (r : Unit) (σ2 : Sg), k20 v2 σ = some (r, σ2) → Rc none (Ev MT CT d) sg48 (20, [(0, .ref 51), (1, .ref 1), (2, .int v2)], [], σ) (fun v s => v = none ∧ s = σ2)) (v2 : Int32) (σ : Sg) (r : Unit) (σ2 : Sg) (h : j_measure_51_1_H20 k20 v2 σ = some (r, σ2)) : Rc none (Ev MT CT d) sg48 (20, [(0, .ref 51), (1, .ref 1), (2, .int v2)], [], σ) (fun v s => v = none ∧ s = σ2) := by
  unfold j_measure_51_1_H20 at h
  refine Rc.blk (c := [_]) (s2 := (if (σ.1 51 0) ≤ v2 then 70 else 28, [(0, .ref 51), (1, .ref 1), (2, .int v2)], [], σ)) 1 rfl rfl (conj_c (rfl) (trivial)) ?_
  by_cases c9 : (σ.1 51 0) ≤ v2
  · rw [if_pos c9] at h
    refine Rc.ifp c9 ?_
    refine Rc.blk (c := [_, _, _, _]) (s2 := (90, [(0, .ref 51), (1, .ref 1), (2, .int v2)], [.int (((1 : Int32) <<< ((σ.1 51 0) &&& 31)) - 1), .int (σ.1 51 0), .ref 52, .ref 62], σ)) 7 rfl rfl (conj_c (rfl) (conj_c (rfl) (conj_c (rfl) (conj_c (rfl) (trivial))))) ?_
    obtain ⟨r1, σ1, hc, h⟩ := bd_some h
    refine Rc.call (Ev.mono d) (v := none) (as := [.ref 62, .ref 52, .int (σ.1 51 0), .int (((1 : Int32) <<< ((σ.1 51 0) &&& 31)) - 1)]) (r := []) 8 rfl rfl rfl rfl ⟨rfl, Nat.le_of_ble_eq_true rfl⟩ (j_run_62_52_ok (by omega) hc) ?_
    show Rc _ _ _ (93, [(0, .ref 51), (1, .ref 1), (2, .int v2)], [], σ1) _
    obtain ⟨rfl, rfl⟩ := some_pair h
    exact Rc.ret 9 rfl rfl rfl trivial ⟨rfl, rfl⟩
  · rw [if_neg c9] at h
    refine Rc.ifn c9 ?_
    obtain ⟨g2, h⟩ := gd_some h
    obtain ⟨g3, h⟩ := gd_some h
    obtain ⟨g4, h⟩ := gd_some h
    refine Rc.blk (c := [_, _, _, _, _, _]) (s2 := (46, [(0, .ref 51), (1, .ref 1), (2, .int v2)], [.ref (52 + 1 + v2.toNatClampNeg), .ref (3 + 1 + v2.toNatClampNeg), .int (σ.1 2 v2.toNatClampNeg)], σ)) 2 rfl rfl (conj_c (rfl) (conj_c (⟨rfl, inB_in g2⟩) (conj_c (rfl) (conj_c (⟨Or.inl rfl, inB_in g3⟩) (conj_c (rfl) (conj_c (⟨Or.inl rfl, inB_in g4⟩) (trivial))))))) ?_
    obtain ⟨r5, σ5, hc, h⟩ := bd_some h
    refine Rc.call (Ev.mono d) (v := none) (as := [.int (σ.1 2 v2.toNatClampNeg), .ref (3 + 1 + v2.toNatClampNeg), .ref (52 + 1 + v2.toNatClampNeg)]) (r := []) 3 rfl rfl rfl rfl (Nat.le_of_ble_eq_true rfl) (j_setPowers_x_x_ok (by omega) hc) ?_
    show Rc _ _ _ (49, [(0, .ref 51), (1, .ref 1), (2, .int v2)], [], σ5) _
    obtain ⟨g6, h⟩ := gd_some h
    refine Rc.blk (c := [_, _, _]) (s2 := (60, [(0, .ref 51), (1, .ref 1), (2, .int v2)], [.ref (52 + 1 + v2.toNatClampNeg), .int v2, .ref 61], σ5)) 4 rfl rfl (conj_c (rfl) (conj_c (rfl) (conj_c (⟨Or.inl rfl, inB_in g6⟩) (trivial)))) ?_
    obtain ⟨r7, σ7, hc, h⟩ := bd_some h
    refine Rc.call (Ev.mono d) (v := some (.long r7)) (as := [.ref (52 + 1 + v2.toNatClampNeg)]) (r := [.int v2, .ref 61]) 5 rfl rfl rfl rfl (Nat.le_of_ble_eq_true rfl) (j_keyOf_x_ok (by omega) hc) ?_
    show Rc _ _ _ (63, [(0, .ref 51), (1, .ref 1), (2, .int v2)], [.long r7, .int v2, .ref 61], σ7) _
    obtain ⟨g8, h⟩ := gd_some h
    refine Rc.blk (c := [_]) (s2 := (20, [(2, .int (v2 + 1)), (0, .ref 51), (1, .ref 1)], [], sl σ7 61 v2.toNatClampNeg r7)) 6 rfl rfl (conj_c (⟨rfl, inB_in g8⟩) (trivial)) ?_
    refine Rc.pick [1, 2, 0] (lv2 := [(0, .ref 51), (1, .ref 1), (2, .int (v2 + 1))]) rfl ?_
    exact hk20 _ _ _ _ h
theorem j_measure_51_1_L20_ok {d : Nat} (hd : 2 ≤ d) : ∀ (n : Nat) (v2 : Int32) (σ : Sg) (r : Unit) (σ2 : Sg), j_measure_51_1_L20 n v2 σ = some (r, σ2) → Rc none (Ev MT CT d) sg48 (20, [(0, .ref 51), (1, .ref 1), (2, .int v2)], [], σ) (fun v s => v = none ∧ s = σ2)
  | 0, _, _, _, _, h => by cases h
  | n + 1, v2, σ, r, σ2, h => j_measure_51_1_H20_ok hd (j_measure_51_1_L20_ok hd n) v2 σ r σ2 h
theorem j_measure_51_1_ok {d : Nat} (hd : 3 ≤ d) {σ : Sg} {r : Unit} {σ2 : Sg} (h : j_measure_51_1 σ = some (r, σ2)) : Ev MT CT d 48 [.ref 51, .ref 1] σ (fun v s => v = none ∧ s = σ2) := by
  obtain ⟨d, rfl⟩ : ∃ e, d = e + 1 := ⟨d - 1, by omega⟩
  refine ⟨Nat.le_of_ble_eq_true rfl, ?_⟩
  show Rc none (Ev MT CT d) sg48 (0, [(0, .ref 51), (1, .ref 1)], [], σ) _
  unfold j_measure_51_1 at h
  have hd : 2 ≤ d := by omega
  refine Rc.blk (c := [_, _, _, _, _]) (s2 := (20, [(2, .int 0), (0, .ref 51), (1, .ref 1)], [], si (si σ 51 0 (σ.1 1 0)) 51 1 (((si σ 51 0 (σ.1 1 0)).1 51 1) + 1))) 0 rfl rfl (conj_c (rfl) (conj_c (rfl) (conj_c (rfl) (conj_c (rfl) (conj_c (rfl) (trivial)))))) ?_
  refine Rc.pick [1, 2, 0] (lv2 := [(0, .ref 51), (1, .ref 1), (2, .int 0)]) rfl ?_
  exact j_measure_51_1_L20_ok hd fu _ _ _ _ h
theorem j_isKind_s_b15_ok {d : Nat} (hd : 0 ≤ d) (s0 : Int32) (σ : Sg) (r : Int32) (σ2 : Sg) (h : j_isKind_s_b15 s0 σ = some (r, σ2)) : Rc none (Ev MT CT d) sg101 (15, [], [.int s0], σ) (fun v s => v = some (.int r) ∧ s = σ2) := by
  unfold j_isKind_s_b15 at h
  obtain ⟨g, h⟩ := gd_some h
  obtain ⟨rfl, rfl⟩ := some_pair h
  exact Rc.ret 4 rfl rfl rfl (nbB_ok g) ⟨rfl, rfl⟩
theorem j_isKind_s_b14_ok {d : Nat} (hd : 0 ≤ d) (σ : Sg) (r : Int32) (σ2 : Sg) (h : j_isKind_s_b14 σ = some (r, σ2)) : Rc none (Ev MT CT d) sg101 (14, [], [], σ) (fun v s => v = some (.int r) ∧ s = σ2) := by
  unfold j_isKind_s_b14 at h
  refine Rc.blk (c := []) (s2 := (15, [], [.int 0], σ)) 3 rfl rfl (trivial) ?_
  exact j_isKind_s_b15_ok hd _ _ _ _ h
theorem j_isKind_s_ok {d : Nat} (hd : 1 ≤ d) {v0 : Int32} {σ : Sg} {r : Int32} {σ2 : Sg} (h : j_isKind_s v0 σ = some (r, σ2)) : Ev MT CT d 101 [.int v0] σ (fun v s => v = some (.int r) ∧ s = σ2) := by
  obtain ⟨d, rfl⟩ : ∃ e, d = e + 1 := ⟨d - 1, by omega⟩
  refine ⟨Nat.le_of_ble_eq_true rfl, ?_⟩
  show Rc none (Ev MT CT d) sg101 (0, [(0, .int v0)], [], σ) _
  unfold j_isKind_s at h
  have hd : 0 ≤ d := by omega
  refine Rc.blk (c := []) (s2 := (if v0 < 0 then 14 else 4, [(0, .int v0)], [], σ)) 0 rfl rfl (trivial) ?_
  by_cases c2 : v0 < 0
  · rw [if_pos c2] at h
    refine Rc.ifp c2 ?_
    refine Rc.pick [] (lv2 := []) rfl ?_
    exact j_isKind_s_b14_ok hd _ _ _ h
  · rw [if_neg c2] at h
    refine Rc.ifn c2 ?_
    refine Rc.blk (c := []) (s2 := (if 6 ≤ v0 then 14 else 10, [(0, .int v0)], [], σ)) 1 rfl rfl (trivial) ?_
    by_cases c1 : 6 ≤ v0
    · rw [if_pos c1] at h
      refine Rc.ifp c1 ?_
      refine Rc.pick [] (lv2 := []) rfl ?_
      exact j_isKind_s_b14_ok hd _ _ _ h
    · rw [if_neg c1] at h
      refine Rc.ifn c1 ?_
      refine Rc.blk (c := []) (s2 := (15, [(0, .int v0)], [.int 1], σ)) 2 rfl rfl (trivial) ?_
      refine Rc.pick [] (lv2 := []) rfl ?_
      exact j_isKind_s_b15_ok hd _ _ _ _ h
theorem j_quantity_0_ok {d : Nat} (hd : 4 ≤ d) {v1 : Int32} {σ : Sg} {r : Int32} {σ2 : Sg} (h : j_quantity_0 v1 σ = some (r, σ2)) : Ev MT CT d 57 [.ref 0, .int v1] σ (fun v s => v = some (.int r) ∧ s = σ2) := by
  obtain ⟨d, rfl⟩ : ∃ e, d = e + 1 := ⟨d - 1, by omega⟩
  refine ⟨Nat.le_of_ble_eq_true rfl, ?_⟩
  show Rc none (Ev MT CT d) sg57 (0, [(0, .ref 0), (1, .int v1)], [], σ) _
  unfold j_quantity_0 at h
  have hd : 3 ≤ d := by omega
  refine Rc.blk (c := []) (s2 := (1, [(0, .ref 0), (1, .int v1)], [.int v1], σ)) 0 rfl rfl (trivial) ?_
  obtain ⟨r1, σ1, hc, h⟩ := bd_some h
  refine Rc.call (Ev.mono d) (v := some (.int r1)) (as := [.int v1]) (r := []) 1 rfl rfl rfl rfl (Nat.le_of_ble_eq_true rfl) (j_isKind_s_ok (by omega) hc) ?_
  show Rc _ _ _ (4, [(0, .ref 0), (1, .int v1)], [.int r1], σ1) _
  refine Rc.blk (c := []) (s2 := (if ¬ r1 = 0 then 14 else 7, [(0, .ref 0), (1, .int v1)], [], σ1)) 2 rfl rfl (trivial) ?_
  by_cases c8 : r1 = 0
  · rw [if_pos c8] at h
    refine Rc.ifn (fun q => q c8) ?_
    refine Rc.blk (c := []) (s2 := (10, [(0, .ref 0), (1, .int v1)], [.int (-2), .ref 0], σ1)) 3 rfl rfl (trivial) ?_
    obtain ⟨r7, σ7, hc, h⟩ := bd_some h
    refine Rc.call (Ev.mono d) (v := some (.int r7)) (as := [.ref 0, .int (-2)]) (r := []) 4 rfl rfl rfl rfl ⟨rfl, Nat.le_of_ble_eq_true rfl⟩ (j_refused_0_ok (by omega) hc) ?_
    show Rc _ _ _ (13, [(0, .ref 0), (1, .int v1)], [.int r7], σ7) _
    obtain ⟨rfl, rfl⟩ := some_pair h
    exact Rc.ret 5 rfl rfl rfl trivial ⟨rfl, rfl⟩
  · rw [if_neg c8] at h
    refine Rc.ifp c8 ?_
    refine Rc.blk (c := [_, _]) (s2 := (if (σ1.1 1 0) < 8 then 33 else 26, [(0, .ref 0), (1, .int v1)], [], σ1)) 6 rfl rfl (conj_c (rfl) (conj_c (rfl) (trivial))) ?_
    by_cases c6 : (σ1.1 1 0) < 8
    · rw [if_pos c6] at h
      refine Rc.ifp c6 ?_
      refine Rc.blk (c := [_]) (s2 := (38, [(0, .ref 0), (1, .int v1)], [.int v1, .ref 1], σ1)) 10 rfl rfl (conj_c (rfl) (trivial)) ?_
      obtain ⟨r2, σ2, hc, h⟩ := bd_some h
      refine Rc.call (Ev.mono d) (v := none) (as := [.ref 1, .int v1]) (r := []) 11 rfl rfl rfl rfl ⟨rfl, Nat.le_of_ble_eq_true rfl⟩ (j_add_1_ok (by omega) hc) ?_
      show Rc _ _ _ (41, [(0, .ref 0), (1, .int v1)], [], σ2) _
      refine Rc.blk (c := [_]) (s2 := (45, [(0, .ref 0), (1, .int v1)], [.ref 29], σ2)) 12 rfl rfl (conj_c (rfl) (trivial)) ?_
      obtain ⟨r3, σ3, hc, h⟩ := bd_some h
      refine Rc.call (Ev.mono d) (v := none) (as := [.ref 29]) (r := []) 13 rfl rfl rfl rfl ⟨rfl, Nat.le_of_ble_eq_true rfl⟩ (j_forget_29_ok (by omega) hc) ?_
      show Rc _ _ _ (48, [(0, .ref 0), (1, .int v1)], [], σ3) _
      refine Rc.blk (c := [_, _]) (s2 := (56, [(0, .ref 0), (1, .int v1)], [.ref 1, .ref 51], σ3)) 14 rfl rfl (conj_c (rfl) (conj_c (rfl) (trivial))) ?_
      obtain ⟨r4, σ4, hc, h⟩ := bd_some h
      refine Rc.call (Ev.mono d) (v := none) (as := [.ref 51, .ref 1]) (r := []) 15 rfl rfl rfl rfl ⟨rfl, Nat.le_of_ble_eq_true rfl⟩ (j_measure_51_1_ok (by omega) hc) ?_
      show Rc _ _ _ (59, [(0, .ref 0), (1, .int v1)], [], σ4) _
      refine Rc.blk (c := [_, _]) (s2 := (68, [(0, .ref 0), (1, .int v1)], [.int ((σ4.1 1 0) - 1)], σ4)) 16 rfl rfl (conj_c (rfl) (conj_c (rfl) (trivial))) ?_
      obtain ⟨rfl, rfl⟩ := some_pair h
      exact Rc.ret 17 rfl rfl rfl trivial ⟨rfl, rfl⟩
    · rw [if_neg c6] at h
      refine Rc.ifn c6 ?_
      refine Rc.blk (c := []) (s2 := (29, [(0, .ref 0), (1, .int v1)], [.int (-6), .ref 0], σ1)) 7 rfl rfl (trivial) ?_
      obtain ⟨r5, σ5, hc, h⟩ := bd_some h
      refine Rc.call (Ev.mono d) (v := some (.int r5)) (as := [.ref 0, .int (-6)]) (r := []) 8 rfl rfl rfl rfl ⟨rfl, Nat.le_of_ble_eq_true rfl⟩ (j_refused_0_ok (by omega) hc) ?_
      show Rc _ _ _ (32, [(0, .ref 0), (1, .int v1)], [.int r5], σ5) _
      obtain ⟨rfl, rfl⟩ := some_pair h
      exact Rc.ret 9 rfl rfl rfl trivial ⟨rfl, rfl⟩
theorem j_note_29_ok {d : Nat} (hd : 1 ≤ d) {v1 : Int32} {v2 : Int32} {v3 : Int32} {v4 : Int32} {σ : Sg} {r : Unit} {σ2 : Sg} (h : j_note_29 v1 v2 v3 v4 σ = some (r, σ2)) : Ev MT CT d 8 [.ref 29, .int v1, .int v2, .int v3, .int v4] σ (fun v s => v = none ∧ s = σ2) := by
  obtain ⟨d, rfl⟩ : ∃ e, d = e + 1 := ⟨d - 1, by omega⟩
  refine ⟨Nat.le_of_ble_eq_true rfl, ?_⟩
  show Rc none (Ev MT CT d) sg8 (0, [(0, .ref 29), (1, .int v1), (2, .int v2), (3, .int v3), (4, .int v4)], [], σ) _
  unfold j_note_29 at h
  have hd : 0 ≤ d := by omega
  obtain ⟨g1, h⟩ := gd_some h
  obtain ⟨g2, h⟩ := gd_some h
  obtain ⟨g3, h⟩ := gd_some h
  obtain ⟨g4, h⟩ := gd_some h
  obtain ⟨g5, h⟩ := gd_some h
  refine Rc.blk (c := [_, _, _, _, _, _, _, _, _, _, _, _, _]) (s2 := (60, [(5, .ref (30 + 1 + (σ.1 29 1).toNatClampNeg)), (0, .ref 29), (1, .int v1), (2, .int v2), (3, .int v3), (4, .int v4)], [], si (si (si (si (si (si σ (30 + 1 + (σ.1 29 1).toNatClampNeg) 0 v1) (30 + 1 + (σ.1 29 1).toNatClampNeg) 1 v2) (30 + 1 + (σ.1 29 1).toNatClampNeg) 2 v3) (30 + 1 + (σ.1 29 1).toNatClampNeg) 3 v4) 29 1 (irm (((si (si (si (si σ (30 + 1 + (σ.1 29 1).toNatClampNeg) 0 v1) (30 + 1 + (σ.1 29 1).toNatClampNeg) 1 v2) (30 + 1 + (σ.1 29 1).toNatClampNeg) 2 v3) (30 + 1 + (σ.1 29 1).toNatClampNeg) 3 v4).1 29 1) + 1) 20)) 29 2 (imin (((si (si (si (si (si σ (30 + 1 + (σ.1 29 1).toNatClampNeg) 0 v1) (30 + 1 + (σ.1 29 1).toNatClampNeg) 1 v2) (30 + 1 + (σ.1 29 1).toNatClampNeg) 2 v3) (30 + 1 + (σ.1 29 1).toNatClampNeg) 3 v4) 29 1 (irm (((si (si (si (si σ (30 + 1 + (σ.1 29 1).toNatClampNeg) 0 v1) (30 + 1 + (σ.1 29 1).toNatClampNeg) 1 v2) (30 + 1 + (σ.1 29 1).toNatClampNeg) 2 v3) (30 + 1 + (σ.1 29 1).toNatClampNeg) 3 v4).1 29 1) + 1) 20)).1 29 2) + 1) 20))) 0 rfl rfl (conj_c (rfl) (conj_c (rfl) (conj_c (⟨Or.inl rfl, inB_in g1⟩) (conj_c (arB_in g2) (conj_c (arB_in g3) (conj_c (arB_in g4) (conj_c (arB_in g5) (conj_c (rfl) (conj_c ((by decide)) (conj_c (rfl) (conj_c (rfl) (conj_c (Nat.le_of_ble_eq_true rfl) (conj_c (rfl) (trivial)))))))))))))) ?_
  obtain ⟨rfl, rfl⟩ := some_pair h
  exact Rc.ret 1 rfl rfl rfl trivial ⟨rfl, rfl⟩
theorem j_isQuantity_0_b20_ok {d : Nat} (hd : 0 ≤ d) (s0 : Int32) (σ : Sg) (r : Int32) (σ2 : Sg) (h : j_isQuantity_0_b20 s0 σ = some (r, σ2)) : Rc none (Ev MT CT d) sg99 (20, [], [.int s0], σ) (fun v s => v = some (.int r) ∧ s = σ2) := by
  unfold j_isQuantity_0_b20 at h
  obtain ⟨g, h⟩ := gd_some h
  obtain ⟨rfl, rfl⟩ := some_pair h
  exact Rc.ret 4 rfl rfl rfl (nbB_ok g) ⟨rfl, rfl⟩
theorem j_isQuantity_0_b19_ok {d : Nat} (hd : 0 ≤ d) (σ : Sg) (r : Int32) (σ2 : Sg) (h : j_isQuantity_0_b19 σ = some (r, σ2)) : Rc none (Ev MT CT d) sg99 (19, [], [], σ) (fun v s => v = some (.int r) ∧ s = σ2) := by
  unfold j_isQuantity_0_b19 at h
  refine Rc.blk (c := []) (s2 := (20, [], [.int 0], σ)) 3 rfl rfl (trivial) ?_
  exact j_isQuantity_0_b20_ok hd _ _ _ _ h
theorem j_isQuantity_0_ok {d : Nat} (hd : 1 ≤ d) {v1 : Int32} {σ : Sg} {r : Int32} {σ2 : Sg} (h : j_isQuantity_0 v1 σ = some (r, σ2)) : Ev MT CT d 99 [.ref 0, .int v1] σ (fun v s => v = some (.int r) ∧ s = σ2) := by
  obtain ⟨d, rfl⟩ : ∃ e, d = e + 1 := ⟨d - 1, by omega⟩
  refine ⟨Nat.le_of_ble_eq_true rfl, ?_⟩
  show Rc none (Ev MT CT d) sg99 (0, [(0, .ref 0), (1, .int v1)], [], σ) _
  unfold j_isQuantity_0 at h
  have hd : 0 ≤ d := by omega
  refine Rc.blk (c := []) (s2 := (if v1 < 0 then 19 else 4, [(0, .ref 0), (1, .int v1)], [], σ)) 0 rfl rfl (trivial) ?_
  by_cases c2 : v1 < 0
  · rw [if_pos c2] at h
    refine Rc.ifp c2 ?_
    refine Rc.pick [] (lv2 := []) rfl ?_
    exact j_isQuantity_0_b19_ok hd _ _ _ h
  · rw [if_neg c2] at h
    refine Rc.ifn c2 ?_
    refine Rc.blk (c := [_, _]) (s2 := (if (σ.1 1 0) ≤ v1 then 19 else 15, [(0, .ref 0), (1, .int v1)], [], σ)) 1 rfl rfl (conj_c (rfl) (conj_c (rfl) (trivial))) ?_
    by_cases c1 : (σ.1 1 0) ≤ v1
    · rw [if_pos c1] at h
      refine Rc.ifp c1 ?_
      refine Rc.pick [] (lv2 := []) rfl ?_
      exact j_isQuantity_0_b19_ok hd _ _ _ h
    · rw [if_neg c1] at h
      refine Rc.ifn c1 ?_
      refine Rc.blk (c := []) (s2 := (20, [(0, .ref 0), (1, .int v1)], [.int 1], σ)) 2 rfl rfl (trivial) ?_
      refine Rc.pick [] (lv2 := []) rfl ?_
      exact j_isQuantity_0_b20_ok hd _ _ _ _ h
theorem j_isUnit_s_b14_ok {d : Nat} (hd : 0 ≤ d) (s0 : Int32) (σ : Sg) (r : Int32) (σ2 : Sg) (h : j_isUnit_s_b14 s0 σ = some (r, σ2)) : Rc none (Ev MT CT d) sg100 (14, [], [.int s0], σ) (fun v s => v = some (.int r) ∧ s = σ2) := by
  unfold j_isUnit_s_b14 at h
  obtain ⟨g, h⟩ := gd_some h
  obtain ⟨rfl, rfl⟩ := some_pair h
  exact Rc.ret 4 rfl rfl rfl (nbB_ok g) ⟨rfl, rfl⟩
theorem j_isUnit_s_b13_ok {d : Nat} (hd : 0 ≤ d) (σ : Sg) (r : Int32) (σ2 : Sg) (h : j_isUnit_s_b13 σ = some (r, σ2)) : Rc none (Ev MT CT d) sg100 (13, [], [], σ) (fun v s => v = some (.int r) ∧ s = σ2) := by
  unfold j_isUnit_s_b13 at h
  refine Rc.blk (c := []) (s2 := (14, [], [.int 0], σ)) 3 rfl rfl (trivial) ?_
  exact j_isUnit_s_b14_ok hd _ _ _ _ h
theorem j_isUnit_s_ok {d : Nat} (hd : 1 ≤ d) {v0 : Int32} {σ : Sg} {r : Int32} {σ2 : Sg} (h : j_isUnit_s v0 σ = some (r, σ2)) : Ev MT CT d 100 [.int v0] σ (fun v s => v = some (.int r) ∧ s = σ2) := by
  obtain ⟨d, rfl⟩ : ∃ e, d = e + 1 := ⟨d - 1, by omega⟩
  refine ⟨Nat.le_of_ble_eq_true rfl, ?_⟩
  show Rc none (Ev MT CT d) sg100 (0, [(0, .int v0)], [], σ) _
  unfold j_isUnit_s at h
  have hd : 0 ≤ d := by omega
  refine Rc.blk (c := []) (s2 := (if v0 < 0 then 13 else 4, [(0, .int v0)], [], σ)) 0 rfl rfl (trivial) ?_
  by_cases c2 : v0 < 0
  · rw [if_pos c2] at h
    refine Rc.ifp c2 ?_
    refine Rc.pick [] (lv2 := []) rfl ?_
    exact j_isUnit_s_b13_ok hd _ _ _ h
  · rw [if_neg c2] at h
    refine Rc.ifn c2 ?_
    refine Rc.blk (c := []) (s2 := (if 5 ≤ v0 then 13 else 9, [(0, .int v0)], [], σ)) 1 rfl rfl (trivial) ?_
    by_cases c1 : 5 ≤ v0
    · rw [if_pos c1] at h
      refine Rc.ifp c1 ?_
      refine Rc.pick [] (lv2 := []) rfl ?_
      exact j_isUnit_s_b13_ok hd _ _ _ h
    · rw [if_neg c1] at h
      refine Rc.ifn c1 ?_
      refine Rc.blk (c := []) (s2 := (14, [(0, .int v0)], [.int 1], σ)) 2 rfl rfl (trivial) ?_
      refine Rc.pick [] (lv2 := []) rfl ?_
      exact j_isUnit_s_b14_ok hd _ _ _ _ h
theorem j_refusedFar_0_ok {d : Nat} (hd : 2 ≤ d) {v1 : Int32} {σ : Sg} {r : Int32} {σ2 : Sg} (h : j_refusedFar_0 v1 σ = some (r, σ2)) : Ev MT CT d 97 [.ref 0, .int v1] σ (fun v s => v = some (.int r) ∧ s = σ2) := by
  obtain ⟨d, rfl⟩ : ∃ e, d = e + 1 := ⟨d - 1, by omega⟩
  refine ⟨Nat.le_of_ble_eq_true rfl, ?_⟩
  show Rc none (Ev MT CT d) sg97 (0, [(0, .ref 0), (1, .int v1)], [], σ) _
  unfold j_refusedFar_0 at h
  have hd : 1 ≤ d := by omega
  refine Rc.blk (c := []) (s2 := (5, [(0, .ref 0), (1, .int v1)], [.int v1, .ref 0, .int 1000000000], σ)) 0 rfl rfl (trivial) ?_
  obtain ⟨r1, σ1, hc, h⟩ := bd_some h
  refine Rc.call (Ev.mono d) (v := some (.int r1)) (as := [.ref 0, .int v1]) (r := [.int 1000000000]) 1 rfl rfl rfl rfl ⟨rfl, Nat.le_of_ble_eq_true rfl⟩ (j_refused_0_ok (by omega) hc) ?_
  show Rc _ _ _ (8, [(0, .ref 0), (1, .int v1)], [.int r1, .int 1000000000], σ1) _
  refine Rc.blk (c := []) (s2 := (9, [(0, .ref 0), (1, .int v1)], [.int (1000000000 - r1)], σ1)) 2 rfl rfl (trivial) ?_
  obtain ⟨rfl, rfl⟩ := some_pair h
  exact Rc.ret 3 rfl rfl rfl trivial ⟨rfl, rfl⟩
theorem j_tell_0_b15_ok {d : Nat} (hd : 3 ≤ d) (σ : Sg) (r : Int32) (σ2 : Sg) (h : j_tell_0_b15 σ = some (r, σ2)) : Rc none (Ev MT CT d) sg58 (15, [(0, .ref 0)], [], σ) (fun v s => v = some (.int r) ∧ s = σ2) := by
  unfold j_tell_0_b15 at h
  refine Rc.blk (c := []) (s2 := (17, [(0, .ref 0)], [.int (-1), .ref 0], σ)) 6 rfl rfl (trivial) ?_
  obtain ⟨r1, σ1, hc, h⟩ := bd_some h
  refine Rc.call (Ev.mono d) (v := some (.int r1)) (as := [.ref 0, .int (-1)]) (r := []) 7 rfl rfl rfl rfl ⟨rfl, Nat.le_of_ble_eq_true rfl⟩ (j_refusedFar_0_ok (by omega) hc) ?_
  show Rc _ _ _ (20, [(0, .ref 0)], [.int r1], σ1) _
  obtain ⟨rfl, rfl⟩ := some_pair h
  exact Rc.ret 8 rfl rfl rfl trivial ⟨rfl, rfl⟩
theorem j_tell_0_ok {d : Nat} (hd : 4 ≤ d) {v1 : Int32} {v2 : Int32} {v3 : Int32} {σ : Sg} {r : Int32} {σ2 : Sg} (h : j_tell_0 v1 v2 v3 σ = some (r, σ2)) : Ev MT CT d 58 [.ref 0, .int v1, .int v2, .int v3] σ (fun v s => v = some (.int r) ∧ s = σ2) := by
  obtain ⟨d, rfl⟩ : ∃ e, d = e + 1 := ⟨d - 1, by omega⟩
  refine ⟨Nat.le_of_ble_eq_true rfl, ?_⟩
  show Rc none (Ev MT CT d) sg58 (0, [(0, .ref 0), (1, .int v1), (2, .int v2), (3, .int v3)], [], σ) _
  unfold j_tell_0 at h
  have hd : 3 ≤ d := by omega
  refine Rc.blk (c := []) (s2 := (2, [(0, .ref 0), (1, .int v1), (2, .int v2), (3, .int v3)], [.int v1, .ref 0], σ)) 0 rfl rfl (trivial) ?_
  obtain ⟨r1, σ1, hc, h⟩ := bd_some h
  refine Rc.call (Ev.mono d) (v := some (.int r1)) (as := [.ref 0, .int v1]) (r := []) 1 rfl rfl rfl rfl ⟨rfl, Nat.le_of_ble_eq_true rfl⟩ (j_isQuantity_0_ok (by omega) hc) ?_
  show Rc _ _ _ (5, [(0, .ref 0), (1, .int v1), (2, .int v2), (3, .int v3)], [.int r1], σ1) _
  refine Rc.blk (c := []) (s2 := (if r1 = 0 then 15 else 8, [(0, .ref 0), (1, .int v1), (2, .int v2), (3, .int v3)], [], σ1)) 2 rfl rfl (trivial) ?_
  by_cases c14 : r1 = 0
  · rw [if_pos c14] at h
    refine Rc.ifp c14 ?_
    refine Rc.pick [0] (lv2 := [(0, .ref 0)]) rfl ?_
    exact j_tell_0_b15_ok hd _ _ _ h
  · rw [if_neg c14] at h
    refine Rc.ifn c14 ?_
    refine Rc.blk (c := []) (s2 := (9, [(0, .ref 0), (1, .int v1), (2, .int v2), (3, .int v3)], [.int v2], σ1)) 3 rfl rfl (trivial) ?_
    obtain ⟨r2, σ2, hc, h⟩ := bd_some h
    refine Rc.call (Ev.mono d) (v := some (.int r2)) (as := [.int v2]) (r := []) 4 rfl rfl rfl rfl (Nat.le_of_ble_eq_true rfl) (j_isUnit_s_ok (by omega) hc) ?_
    show Rc _ _ _ (12, [(0, .ref 0), (1, .int v1), (2, .int v2), (3, .int v3)], [.int r2], σ2) _
    refine Rc.blk (c := []) (s2 := (if ¬ r2 = 0 then 21 else 15, [(0, .ref 0), (1, .int v1), (2, .int v2), (3, .int v3)], [], σ2)) 5 rfl rfl (trivial) ?_
    by_cases c13 : r2 = 0
    · rw [if_pos c13] at h
      refine Rc.ifn (fun q => q c13) ?_
      refine Rc.pick [0] (lv2 := [(0, .ref 0)]) rfl ?_
      exact j_tell_0_b15_ok hd _ _ _ h
    · rw [if_neg c13] at h
      refine Rc.ifp c13 ?_
      refine Rc.blk (c := []) (s2 := (if (-9) ≤ v3 then 34 else 27, [(0, .ref 0), (1, .int v1), (2, .int v2), (3, .int v3)], [], σ2)) 9 rfl rfl (trivial) ?_
      by_cases c12 : (-9) ≤ v3
      · rw [if_pos c12] at h
        refine Rc.ifp c12 ?_
        refine Rc.blk (c := []) (s2 := (if v3 ≤ 9 then 47 else 40, [(0, .ref 0), (1, .int v1), (2, .int v2), (3, .int v3)], [], σ2)) 13 rfl rfl (trivial) ?_
        by_cases c10 : v3 ≤ 9
        · rw [if_pos c10] at h
          refine Rc.ifp c10 ?_
          obtain ⟨g3, h⟩ := gd_some h
          obtain ⟨g4, h⟩ := gd_some h
          refine Rc.blk (c := [_, _, _, _, _]) (s2 := (69, [(4, .int (σ2.1 (3 + 1 + v1.toNatClampNeg) v2.toNatClampNeg)), (0, .ref 0), (1, .int v1), (2, .int v2), (3, .int v3)], [.int (σ2.1 (3 + 1 + v1.toNatClampNeg) v2.toNatClampNeg), .int v2, .int v1, .int 0, .ref 29], σ2)) 17 rfl rfl (conj_c (rfl) (conj_c (rfl) (conj_c (⟨Or.inl rfl, inB_in g3⟩) (conj_c (arB_in g4) (conj_c (rfl) (trivial)))))) ?_
          obtain ⟨r5, σ5, hc, h⟩ := bd_some h
          refine Rc.call (Ev.mono d) (v := none) (as := [.ref 29, .int 0, .int v1, .int v2, .int (σ2.1 (3 + 1 + v1.toNatClampNeg) v2.toNatClampNeg)]) (r := []) 18 rfl rfl rfl rfl ⟨rfl, Nat.le_of_ble_eq_true rfl⟩ (j_note_29_ok (by omega) hc) ?_
          show Rc _ _ _ (72, [(4, .int (σ2.1 (3 + 1 + v1.toNatClampNeg) v2.toNatClampNeg)), (0, .ref 0), (1, .int v1), (2, .int v2), (3, .int v3)], [], σ5) _
          obtain ⟨g6, h⟩ := gd_some h
          obtain ⟨g7, h⟩ := gd_some h
          refine Rc.blk (c := [_, _, _, _, _, _]) (s2 := (92, [(4, .int (σ2.1 (3 + 1 + v1.toNatClampNeg) v2.toNatClampNeg)), (0, .ref 0), (1, .int v1), (2, .int v2), (3, .int v3)], [.ref 1, .ref 51], si σ5 (3 + 1 + v1.toNatClampNeg) v2.toNatClampNeg v3)) 19 rfl rfl (conj_c (rfl) (conj_c (rfl) (conj_c (⟨Or.inl rfl, inB_in g6⟩) (conj_c (arB_in g7) (conj_c (rfl) (conj_c (rfl) (trivial))))))) ?_
          obtain ⟨r8, σ8, hc, h⟩ := bd_some h
          refine Rc.call (Ev.mono d) (v := none) (as := [.ref 51, .ref 1]) (r := []) 20 rfl rfl rfl rfl ⟨rfl, Nat.le_of_ble_eq_true rfl⟩ (j_measure_51_1_ok (by omega) hc) ?_
          show Rc _ _ _ (95, [(4, .int (σ2.1 (3 + 1 + v1.toNatClampNeg) v2.toNatClampNeg)), (0, .ref 0), (1, .int v1), (2, .int v2), (3, .int v3)], [], σ8) _
          refine Rc.blk (c := []) (s2 := (97, [(4, .int (σ2.1 (3 + 1 + v1.toNatClampNeg) v2.toNatClampNeg)), (0, .ref 0), (1, .int v1), (2, .int v2), (3, .int v3)], [.int (σ2.1 (3 + 1 + v1.toNatClampNeg) v2.toNatClampNeg)], σ8)) 21 rfl rfl (trivial) ?_
          obtain ⟨rfl, rfl⟩ := some_pair h
          exact Rc.ret 22 rfl rfl rfl trivial ⟨rfl, rfl⟩
        · rw [if_neg c10] at h
          refine Rc.ifn c10 ?_
          refine Rc.blk (c := []) (s2 := (43, [(0, .ref 0), (1, .int v1), (2, .int v2), (3, .int v3)], [.int (-6), .ref 0], σ2)) 14 rfl rfl (trivial) ?_
          obtain ⟨r9, σ9, hc, h⟩ := bd_some h
          refine Rc.call (Ev.mono d) (v := some (.int r9)) (as := [.ref 0, .int (-6)]) (r := []) 15 rfl rfl rfl rfl ⟨rfl, Nat.le_of_ble_eq_true rfl⟩ (j_refusedFar_0_ok (by omega) hc) ?_
          show Rc _ _ _ (46, [(0, .ref 0), (1, .int v1), (2, .int v2), (3, .int v3)], [.int r9], σ9) _
          obtain ⟨rfl, rfl⟩ := some_pair h
          exact Rc.ret 16 rfl rfl rfl trivial ⟨rfl, rfl⟩
      · rw [if_neg c12] at h
        refine Rc.ifn c12 ?_
        refine Rc.blk (c := []) (s2 := (30, [(0, .ref 0), (1, .int v1), (2, .int v2), (3, .int v3)], [.int (-4), .ref 0], σ2)) 10 rfl rfl (trivial) ?_
        obtain ⟨r11, σ11, hc, h⟩ := bd_some h
        refine Rc.call (Ev.mono d) (v := some (.int r11)) (as := [.ref 0, .int (-4)]) (r := []) 11 rfl rfl rfl rfl ⟨rfl, Nat.le_of_ble_eq_true rfl⟩ (j_refusedFar_0_ok (by omega) hc) ?_
        show Rc _ _ _ (33, [(0, .ref 0), (1, .int v1), (2, .int v2), (3, .int v3)], [.int r11], σ11) _
        obtain ⟨rfl, rfl⟩ := some_pair h
        exact Rc.ret 12 rfl rfl rfl trivial ⟨rfl, rfl⟩
theorem j_turn_0_ok {d : Nat} (hd : 4 ≤ d) {v1 : Int32} {v2 : Int32} {σ : Sg} {r : Int32} {σ2 : Sg} (h : j_turn_0 v1 v2 σ = some (r, σ2)) : Ev MT CT d 59 [.ref 0, .int v1, .int v2] σ (fun v s => v = some (.int r) ∧ s = σ2) := by
  obtain ⟨d, rfl⟩ : ∃ e, d = e + 1 := ⟨d - 1, by omega⟩
  refine ⟨Nat.le_of_ble_eq_true rfl, ?_⟩
  show Rc none (Ev MT CT d) sg59 (0, [(0, .ref 0), (1, .int v1), (2, .int v2)], [], σ) _
  unfold j_turn_0 at h
  have hd : 3 ≤ d := by omega
  refine Rc.blk (c := []) (s2 := (2, [(0, .ref 0), (1, .int v1), (2, .int v2)], [.int v1, .ref 0], σ)) 0 rfl rfl (trivial) ?_
  obtain ⟨r1, σ1, hc, h⟩ := bd_some h
  refine Rc.call (Ev.mono d) (v := some (.int r1)) (as := [.ref 0, .int v1]) (r := []) 1 rfl rfl rfl rfl ⟨rfl, Nat.le_of_ble_eq_true rfl⟩ (j_isQuantity_0_ok (by omega) hc) ?_
  show Rc _ _ _ (5, [(0, .ref 0), (1, .int v1), (2, .int v2)], [.int r1], σ1) _
  refine Rc.blk (c := []) (s2 := (if ¬ r1 = 0 then 14 else 8, [(0, .ref 0), (1, .int v1), (2, .int v2)], [], σ1)) 2 rfl rfl (trivial) ?_
  by_cases c10 : r1 = 0
  · rw [if_pos c10] at h
    refine Rc.ifn (fun q => q c10) ?_
    refine Rc.blk (c := []) (s2 := (10, [(0, .ref 0), (1, .int v1), (2, .int v2)], [.int (-1), .ref 0], σ1)) 3 rfl rfl (trivial) ?_
    obtain ⟨r9, σ9, hc, h⟩ := bd_some h
    refine Rc.call (Ev.mono d) (v := some (.int r9)) (as := [.ref 0, .int (-1)]) (r := []) 4 rfl rfl rfl rfl ⟨rfl, Nat.le_of_ble_eq_true rfl⟩ (j_refused_0_ok (by omega) hc) ?_
    show Rc _ _ _ (13, [(0, .ref 0), (1, .int v1), (2, .int v2)], [.int r9], σ9) _
    obtain ⟨rfl, rfl⟩ := some_pair h
    exact Rc.ret 5 rfl rfl rfl trivial ⟨rfl, rfl⟩
  · rw [if_neg c10] at h
    refine Rc.ifp c10 ?_
    refine Rc.blk (c := []) (s2 := (15, [(0, .ref 0), (1, .int v1), (2, .int v2)], [.int v2], σ1)) 6 rfl rfl (trivial) ?_
    obtain ⟨r2, σ2, hc, h⟩ := bd_some h
    refine Rc.call (Ev.mono d) (v := some (.int r2)) (as := [.int v2]) (r := []) 7 rfl rfl rfl rfl (Nat.le_of_ble_eq_true rfl) (j_isKind_s_ok (by omega) hc) ?_
    show Rc _ _ _ (18, [(0, .ref 0), (1, .int v1), (2, .int v2)], [.int r2], σ2) _
    refine Rc.blk (c := []) (s2 := (if ¬ r2 = 0 then 28 else 21, [(0, .ref 0), (1, .int v1), (2, .int v2)], [], σ2)) 8 rfl rfl (trivial) ?_
    by_cases c8 : r2 = 0
    · rw [if_pos c8] at h
      refine Rc.ifn (fun q => q c8) ?_
      refine Rc.blk (c := []) (s2 := (24, [(0, .ref 0), (1, .int v1), (2, .int v2)], [.int (-2), .ref 0], σ2)) 9 rfl rfl (trivial) ?_
      obtain ⟨r7, σ7, hc, h⟩ := bd_some h
      refine Rc.call (Ev.mono d) (v := some (.int r7)) (as := [.ref 0, .int (-2)]) (r := []) 10 rfl rfl rfl rfl ⟨rfl, Nat.le_of_ble_eq_true rfl⟩ (j_refused_0_ok (by omega) hc) ?_
      show Rc _ _ _ (27, [(0, .ref 0), (1, .int v1), (2, .int v2)], [.int r7], σ7) _
      obtain ⟨rfl, rfl⟩ := some_pair h
      exact Rc.ret 11 rfl rfl rfl trivial ⟨rfl, rfl⟩
    · rw [if_neg c8] at h
      refine Rc.ifp c8 ?_
      obtain ⟨g3, h⟩ := gd_some h
      refine Rc.blk (c := [_, _, _, _]) (s2 := (46, [(3, .int (σ2.1 2 v1.toNatClampNeg)), (0, .ref 0), (1, .int v1), (2, .int v2)], [.int 0, .int (σ2.1 2 v1.toNatClampNeg), .int v1, .int 1, .ref 29], σ2)) 12 rfl rfl (conj_c (rfl) (conj_c (rfl) (conj_c (⟨rfl, inB_in g3⟩) (conj_c (rfl) (trivial))))) ?_
      obtain ⟨r4, σ4, hc, h⟩ := bd_some h
      refine Rc.call (Ev.mono d) (v := none) (as := [.ref 29, .int 1, .int v1, .int (σ2.1 2 v1.toNatClampNeg), .int 0]) (r := []) 13 rfl rfl rfl rfl ⟨rfl, Nat.le_of_ble_eq_true rfl⟩ (j_note_29_ok (by omega) hc) ?_
      show Rc _ _ _ (49, [(3, .int (σ2.1 2 v1.toNatClampNeg)), (0, .ref 0), (1, .int v1), (2, .int v2)], [], σ4) _
      obtain ⟨g5, h⟩ := gd_some h
      refine Rc.blk (c := [_, _, _, _, _]) (s2 := (67, [(3, .int (σ2.1 2 v1.toNatClampNeg)), (0, .ref 0), (1, .int v1), (2, .int v2)], [.ref 1, .ref 51], si σ4 2 v1.toNatClampNeg v2)) 14 rfl rfl (conj_c (rfl) (conj_c (rfl) (conj_c (⟨rfl, inB_in g5⟩) (conj_c (rfl) (conj_c (rfl) (trivial)))))) ?_
      obtain ⟨r6, σ6, hc, h⟩ := bd_some h
      refine Rc.call (Ev.mono d) (v := none) (as := [.ref 51, .ref 1]) (r := []) 15 rfl rfl rfl rfl ⟨rfl, Nat.le_of_ble_eq_true rfl⟩ (j_measure_51_1_ok (by omega) hc) ?_
      show Rc _ _ _ (70, [(3, .int (σ2.1 2 v1.toNatClampNeg)), (0, .ref 0), (1, .int v1), (2, .int v2)], [], σ6) _
      refine Rc.blk (c := []) (s2 := (71, [(3, .int (σ2.1 2 v1.toNatClampNeg)), (0, .ref 0), (1, .int v1), (2, .int v2)], [.int (σ2.1 2 v1.toNatClampNeg)], σ6)) 16 rfl rfl (trivial) ?_
      obtain ⟨rfl, rfl⟩ := some_pair h
      exact Rc.ret 17 rfl rfl rfl trivial ⟨rfl, rfl⟩
theorem j_looseSet_51_ok {d : Nat} (hd : 1 ≤ d) {σ : Sg} {r : Int32} {σ2 : Sg} (h : j_looseSet_51 σ = some (r, σ2)) : Ev MT CT d 51 [.ref 51] σ (fun v s => v = some (.int r) ∧ s = σ2) := by
  obtain ⟨d, rfl⟩ : ∃ e, d = e + 1 := ⟨d - 1, by omega⟩
  refine ⟨Nat.le_of_ble_eq_true rfl, ?_⟩
  show Rc none (Ev MT CT d) sg51 (0, [(0, .ref 51)], [], σ) _
  unfold j_looseSet_51 at h
  have hd : 0 ≤ d := by omega
  refine Rc.blk (c := [_, _, _]) (s2 := (18, [(0, .ref 51)], [.int ((((1 : Int32) <<< ((σ.1 51 0) &&& 31)) - 1) &&& ((σ.1 62 4) ^^^ (-1)))], σ)) 0 rfl rfl (conj_c (rfl) (conj_c (rfl) (conj_c (rfl) (trivial)))) ?_
  obtain ⟨rfl, rfl⟩ := some_pair h
  exact Rc.ret 1 rfl rfl rfl trivial ⟨rfl, rfl⟩
theorem j_isPure_x_H7_ok {d : Nat} (hd : 0 ≤ d) {k7 : Nat → Int32 → Int32 → Sg → Option (Int32 × Sg)} (hk7 : ∀ (v1 : Nat) (v2 : Int32) (v3 : Int32) (σ : Sg) (r : Int32) (σ2 : Sg), k7 v1 v2 v3 σ = some (r, σ2) → Rc none (Ev MT CT d) sg114 (7, [(1, .ref v1), (2, .int v2), (3, .int v3)], [], σ) (fun v s => v = some (.int r) ∧ s = σ2)) (v1 : Nat) (v2 : Int32) (v3 : Int32) (σ : Sg) (r : Int32) (σ2 : Sg) (h : j_isPure_x_H7 k7 v1 v2 v3 σ = some (r, σ2)) : Rc none (Ev MT CT d) sg114 (7, [(1, .ref v1), (2, .int v2), (3, .int v3)], [], σ) (fun v s => v = some (.int r) ∧ s = σ2) := by
  unfold j_isPure_x_H7 at h
  refine Rc.blk (c := []) (s2 := (if v2 ≤ v3 then 30 else 12, [(1, .ref v1), (2, .int v2), (3, .int v3)], [], σ)) 1 rfl rfl (trivial) ?_
  by_cases c3 : v2 ≤ v3
  · rw [if_pos c3] at h
    refine Rc.ifp c3 ?_
    refine Rc.blk (c := []) (s2 := (31, [(1, .ref v1), (2, .int v2), (3, .int v3)], [.int 1], σ)) 6 rfl rfl (trivial) ?_
    obtain ⟨rfl, rfl⟩ := some_pair h
    exact Rc.ret 7 rfl rfl rfl (Or.inr rfl) ⟨rfl, rfl⟩
  · rw [if_neg c3] at h
    refine Rc.ifn c3 ?_
    obtain ⟨g1, h⟩ := gd_some h
    refine Rc.blk (c := [_]) (s2 := (if (σ.1 v1 v3.toNatClampNeg) = 0 then 24 else 22, [(4, .int (σ.1 v1 v3.toNatClampNeg)), (1, .ref v1), (2, .int v2), (3, .int v3)], [], σ)) 2 rfl rfl (conj_c (arB_in g1) (trivial)) ?_
    by_cases c2 : (σ.1 v1 v3.toNatClampNeg) = 0
    · rw [if_pos c2] at h
      refine Rc.ifp c2 ?_
      refine Rc.blk (c := []) (s2 := (7, [(3, .int (v3 + 1)), (4, .int (σ.1 v1 v3.toNatClampNeg)), (1, .ref v1), (2, .int v2)], [], σ)) 5 rfl rfl (trivial) ?_
      refine Rc.pick [2, 3, 0] (lv2 := [(1, .ref v1), (2, .int v2), (3, .int (v3 + 1))]) rfl ?_
      exact hk7 _ _ _ _ _ _ h
    · rw [if_neg c2] at h
      refine Rc.ifn c2 ?_
      refine Rc.blk (c := []) (s2 := (23, [(4, .int (σ.1 v1 v3.toNatClampNeg)), (1, .ref v1), (2, .int v2), (3, .int v3)], [.int 0], σ)) 3 rfl rfl (trivial) ?_
      obtain ⟨rfl, rfl⟩ := some_pair h
      exact Rc.ret 4 rfl rfl rfl (Or.inl rfl) ⟨rfl, rfl⟩
theorem j_isPure_x_L7_ok {d : Nat} (hd : 0 ≤ d) : ∀ (n : Nat) (v1 : Nat) (v2 : Int32) (v3 : Int32) (σ : Sg) (r : Int32) (σ2 : Sg), j_isPure_x_L7 n v1 v2 v3 σ = some (r, σ2) → Rc none (Ev MT CT d) sg114 (7, [(1, .ref v1), (2, .int v2), (3, .int v3)], [], σ) (fun v s => v = some (.int r) ∧ s = σ2)
  | 0, _, _, _, _, _, _, h => by cases h
  | n + 1, v1, v2, v3, σ, r, σ2, h => j_isPure_x_H7_ok hd (j_isPure_x_L7_ok hd n) v1 v2 v3 σ r σ2 h
theorem j_isPure_x_ok {d : Nat} (hd : 1 ≤ d) {v0 : Nat} {σ : Sg} {r : Int32} {σ2 : Sg} (h : j_isPure_x v0 σ = some (r, σ2)) : Ev MT CT d 114 [.ref v0] σ (fun v s => v = some (.int r) ∧ s = σ2) := by
  obtain ⟨d, rfl⟩ : ∃ e, d = e + 1 := ⟨d - 1, by omega⟩
  refine ⟨Nat.le_of_ble_eq_true rfl, ?_⟩
  show Rc none (Ev MT CT d) sg114 (0, [(0, .ref v0)], [], σ) _
  unfold j_isPure_x at h
  have hd : 0 ≤ d := by omega
  obtain ⟨g1, h⟩ := gd_some h
  refine Rc.blk (c := [_]) (s2 := (7, [(3, .int 0), (2, .int (Int32.ofNat (al v0))), (1, .ref v0), (0, .ref v0)], [], σ)) 0 rfl rfl (conj_c (ckB_lt g1) (trivial)) ?_
  refine Rc.pick [2, 1, 0] (lv2 := [(1, .ref v0), (2, .int (Int32.ofNat (al v0))), (3, .int 0)]) rfl ?_
  exact j_isPure_x_L7_ok hd fu _ _ _ _ _ _ h
theorem j_of_0_b133_ok {d : Nat} (hd : 2 ≤ d) (σ : Sg) (r : Int32) (σ2 : Sg) (h : j_of_0_b133 σ = some (r, σ2)) : Rc none (Ev MT CT d) sg60 (133, [(0, .ref 0)], [], σ) (fun v s => v = some (.int r) ∧ s = σ2) := by
  unfold j_of_0_b133 at h
  refine Rc.blk (c := []) (s2 := (136, [(0, .ref 0)], [.int (-2), .ref 0], σ)) 34 rfl rfl (trivial) ?_
  obtain ⟨r1, σ1, hc, h⟩ := bd_some h
  refine Rc.call (Ev.mono d) (v := some (.int r1)) (as := [.ref 0, .int (-2)]) (r := []) 35 rfl rfl rfl rfl ⟨rfl, Nat.le_of_ble_eq_true rfl⟩ (j_refusedFar_0_ok (by omega) hc) ?_
  show Rc _ _ _ (139, [(0, .ref 0)], [.int r1], σ1) _
  obtain ⟨rfl, rfl⟩ := some_pair h
  exact Rc.ret 36 rfl rfl rfl trivial ⟨rfl, rfl⟩
theorem j_of_0_b102_ok {d : Nat} (hd : 2 ≤ d) (v1 : Int32) (v2 : Int32) (σ : Sg) (r : Int32) (σ2 : Sg) (h : j_of_0_b102 v1 v2 σ = some (r, σ2)) : Rc none (Ev MT CT d) sg60 (102, [(0, .ref 0), (1, .int v1), (2, .int v2)], [], σ) (fun v s => v = some (.int r) ∧ s = σ2) := by
  unfold j_of_0_b102 at h
  refine Rc.blk (c := []) (s2 := (if v2 < 20 then 133 else 108, [(0, .ref 0), (1, .int v1), (2, .int v2)], [], σ)) 28 rfl rfl (trivial) ?_
  by_cases c5 : v2 < 20
  · rw [if_pos c5] at h
    refine Rc.ifp c5 ?_
    refine Rc.pick [0] (lv2 := [(0, .ref 0)]) rfl ?_
    exact j_of_0_b133_ok hd _ _ _ h
  · rw [if_neg c5] at h
    refine Rc.ifn c5 ?_
    refine Rc.blk (c := []) (s2 := (112, [(0, .ref 0), (1, .int v1), (2, .int v2)], [.int (v2 - 20)], σ)) 29 rfl rfl (trivial) ?_
    obtain ⟨r1, σ1, hc, h⟩ := bd_some h
    refine Rc.call (Ev.mono d) (v := some (.int r1)) (as := [.int (v2 - 20)]) (r := []) 30 rfl rfl rfl rfl (Nat.le_of_ble_eq_true rfl) (j_isUnit_s_ok (by omega) hc) ?_
    show Rc _ _ _ (115, [(0, .ref 0), (1, .int v1), (2, .int v2)], [.int r1], σ1) _
    refine Rc.blk (c := []) (s2 := (if r1 = 0 then 133 else 118, [(0, .ref 0), (1, .int v1), (2, .int v2)], [], σ1)) 31 rfl rfl (trivial) ?_
    by_cases c4 : r1 = 0
    · rw [if_pos c4] at h
      refine Rc.ifp c4 ?_
      refine Rc.pick [0] (lv2 := [(0, .ref 0)]) rfl ?_
      exact j_of_0_b133_ok hd _ _ _ h
    · rw [if_neg c4] at h
      refine Rc.ifn c4 ?_
      obtain ⟨g2, h⟩ := gd_some h
      obtain ⟨g3, h⟩ := gd_some h
      refine Rc.blk (c := [_, _, _, _]) (s2 := (132, [(0, .ref 0), (1, .int v1), (2, .int v2)], [.int (σ1.1 (52 + 1 + v1.toNatClampNeg) (v2 - 20).toNatClampNeg)], σ1)) 32 rfl rfl (conj_c (rfl) (conj_c (rfl) (conj_c (⟨Or.inl rfl, inB_in g2⟩) (conj_c (arB_in g3) (trivial))))) ?_
      obtain ⟨rfl, rfl⟩ := some_pair h
      exact Rc.ret 33 rfl rfl rfl trivial ⟨rfl, rfl⟩
theorem j_of_0_b70_ok {d : Nat} (hd : 2 ≤ d) (s0 : Int32) (σ : Sg) (r : Int32) (σ2 : Sg) (h : j_of_0_b70 s0 σ = some (r, σ2)) : Rc none (Ev MT CT d) sg60 (70, [], [.int s0], σ) (fun v s => v = some (.int r) ∧ s = σ2) := by
  unfold j_of_0_b70 at h
  obtain ⟨rfl, rfl⟩ := some_pair h
  exact Rc.ret 21 rfl rfl rfl trivial ⟨rfl, rfl⟩
theorem j_of_0_ok {d : Nat} (hd : 3 ≤ d) {v1 : Int32} {v2 : Int32} {σ : Sg} {r : Int32} {σ2 : Sg} (h : j_of_0 v1 v2 σ = some (r, σ2)) : Ev MT CT d 60 [.ref 0, .int v1, .int v2] σ (fun v s => v = some (.int r) ∧ s = σ2) := by
  obtain ⟨d, rfl⟩ : ∃ e, d = e + 1 := ⟨d - 1, by omega⟩
  refine ⟨Nat.le_of_ble_eq_true rfl, ?_⟩
  show Rc none (Ev MT CT d) sg60 (0, [(0, .ref 0), (1, .int v1), (2, .int v2)], [], σ) _
  unfold j_of_0 at h
  have hd : 2 ≤ d := by omega
  refine Rc.blk (c := []) (s2 := (2, [(0, .ref 0), (1, .int v1), (2, .int v2)], [.int v1, .ref 0], σ)) 0 rfl rfl (trivial) ?_
  obtain ⟨r1, σ1, hc, h⟩ := bd_some h
  refine Rc.call (Ev.mono d) (v := some (.int r1)) (as := [.ref 0, .int v1]) (r := []) 1 rfl rfl rfl rfl ⟨rfl, Nat.le_of_ble_eq_true rfl⟩ (j_isQuantity_0_ok (by omega) hc) ?_
  show Rc _ _ _ (5, [(0, .ref 0), (1, .int v1), (2, .int v2)], [.int r1], σ1) _
  refine Rc.blk (c := []) (s2 := (if ¬ r1 = 0 then 14 else 8, [(0, .ref 0), (1, .int v1), (2, .int v2)], [], σ1)) 2 rfl rfl (trivial) ?_
  by_cases c17 : r1 = 0
  · rw [if_pos c17] at h
    refine Rc.ifn (fun q => q c17) ?_
    refine Rc.blk (c := []) (s2 := (10, [(0, .ref 0), (1, .int v1), (2, .int v2)], [.int (-1), .ref 0], σ1)) 3 rfl rfl (trivial) ?_
    obtain ⟨r16, σ16, hc, h⟩ := bd_some h
    refine Rc.call (Ev.mono d) (v := some (.int r16)) (as := [.ref 0, .int (-1)]) (r := []) 4 rfl rfl rfl rfl ⟨rfl, Nat.le_of_ble_eq_true rfl⟩ (j_refusedFar_0_ok (by omega) hc) ?_
    show Rc _ _ _ (13, [(0, .ref 0), (1, .int v1), (2, .int v2)], [.int r16], σ16) _
    obtain ⟨rfl, rfl⟩ := some_pair h
    exact Rc.ret 5 rfl rfl rfl trivial ⟨rfl, rfl⟩
  · rw [if_neg c17] at h
    refine Rc.ifp c17 ?_
    refine Rc.blk (c := []) (s2 := (if ¬ v2 = 0 then 28 else 18, [(0, .ref 0), (1, .int v1), (2, .int v2)], [], σ1)) 6 rfl rfl (trivial) ?_
    by_cases c15 : v2 = 0
    · rw [if_pos c15] at h
      refine Rc.ifn (fun q => q c15) ?_
      obtain ⟨g14, h⟩ := gd_some h
      refine Rc.blk (c := [_, _, _]) (s2 := (27, [(0, .ref 0), (1, .int v1), (2, .int v2)], [.int (σ1.1 2 v1.toNatClampNeg)], σ1)) 7 rfl rfl (conj_c (rfl) (conj_c (rfl) (conj_c (⟨rfl, inB_in g14⟩) (trivial)))) ?_
      obtain ⟨rfl, rfl⟩ := some_pair h
      exact Rc.ret 8 rfl rfl rfl trivial ⟨rfl, rfl⟩
    · rw [if_neg c15] at h
      refine Rc.ifp c15 ?_
      refine Rc.blk (c := []) (s2 := (if ¬ v2 = 1 then 45 else 33, [(0, .ref 0), (1, .int v1), (2, .int v2)], [], σ1)) 9 rfl rfl (trivial) ?_
      by_cases c13 : v2 = 1
      · rw [if_pos c13] at h
        refine Rc.ifn (fun q => q c13) ?_
        refine Rc.blk (c := [_]) (s2 := (37, [(0, .ref 0), (1, .int v1), (2, .int v2)], [.ref 51], σ1)) 10 rfl rfl (conj_c (rfl) (trivial)) ?_
        obtain ⟨r11, σ11, hc, h⟩ := bd_some h
        refine Rc.call (Ev.mono d) (v := some (.int r11)) (as := [.ref 51]) (r := []) 11 rfl rfl rfl rfl ⟨rfl, Nat.le_of_ble_eq_true rfl⟩ (j_looseSet_51_ok (by omega) hc) ?_
        show Rc _ _ _ (40, [(0, .ref 0), (1, .int v1), (2, .int v2)], [.int r11], σ11) _
        refine Rc.blk (c := []) (s2 := (41, [(0, .ref 0), (1, .int v1), (2, .int v2)], [.int v1, .int r11], σ11)) 12 rfl rfl (trivial) ?_
        obtain ⟨r12, σ12, hc, h⟩ := bd_some h
        refine Rc.call (Ev.mono d) (v := some (.int r12)) (as := [.int r11, .int v1]) (r := []) 13 rfl rfl rfl rfl (Nat.le_of_ble_eq_true rfl) (j_bit_s_ok (by omega) hc) ?_
        show Rc _ _ _ (44, [(0, .ref 0), (1, .int v1), (2, .int v2)], [.int r12], σ12) _
        obtain ⟨rfl, rfl⟩ := some_pair h
        exact Rc.ret 14 rfl rfl rfl trivial ⟨rfl, rfl⟩
      · rw [if_neg c13] at h
        refine Rc.ifp c13 ?_
        refine Rc.blk (c := []) (s2 := (if ¬ v2 = 2 then 71 else 50, [(0, .ref 0), (1, .int v1), (2, .int v2)], [], σ1)) 15 rfl rfl (trivial) ?_
        by_cases c10 : v2 = 2
        · rw [if_pos c10] at h
          refine Rc.ifn (fun q => q c10) ?_
          obtain ⟨g7, h⟩ := gd_some h
          refine Rc.blk (c := [_, _, _]) (s2 := (59, [(0, .ref 0), (1, .int v1), (2, .int v2)], [.ref (52 + 1 + v1.toNatClampNeg)], σ1)) 16 rfl rfl (conj_c (rfl) (conj_c (rfl) (conj_c (⟨Or.inl rfl, inB_in g7⟩) (trivial)))) ?_
          obtain ⟨r8, σ8, hc, h⟩ := bd_some h
          refine Rc.call (Ev.mono d) (v := some (.int r8)) (as := [.ref (52 + 1 + v1.toNatClampNeg)]) (r := []) 17 rfl rfl rfl rfl (Nat.le_of_ble_eq_true rfl) (j_isPure_x_ok (by omega) hc) ?_
          show Rc _ _ _ (62, [(0, .ref 0), (1, .int v1), (2, .int v2)], [.int r8], σ8) _
          refine Rc.blk (c := []) (s2 := (if r8 = 0 then 69 else 65, [(0, .ref 0), (1, .int v1), (2, .int v2)], [], σ8)) 18 rfl rfl (trivial) ?_
          by_cases c9 : r8 = 0
          · rw [if_pos c9] at h
            refine Rc.ifp c9 ?_
            refine Rc.blk (c := []) (s2 := (70, [(0, .ref 0), (1, .int v1), (2, .int v2)], [.int 0], σ8)) 20 rfl rfl (trivial) ?_
            refine Rc.pick [] (lv2 := []) rfl ?_
            exact j_of_0_b70_ok hd _ _ _ _ h
          · rw [if_neg c9] at h
            refine Rc.ifn c9 ?_
            refine Rc.blk (c := []) (s2 := (70, [(0, .ref 0), (1, .int v1), (2, .int v2)], [.int 1], σ8)) 19 rfl rfl (trivial) ?_
            refine Rc.pick [] (lv2 := []) rfl ?_
            exact j_of_0_b70_ok hd _ _ _ _ h
        · rw [if_neg c10] at h
          refine Rc.ifp c10 ?_
          refine Rc.blk (c := []) (s2 := (if v2 < 10 then 102 else 77, [(0, .ref 0), (1, .int v1), (2, .int v2)], [], σ1)) 22 rfl rfl (trivial) ?_
          by_cases c6 : v2 < 10
          · rw [if_pos c6] at h
            refine Rc.ifp c6 ?_
            exact j_of_0_b102_ok hd _ _ _ _ _ h
          · rw [if_neg c6] at h
            refine Rc.ifn c6 ?_
            refine Rc.blk (c := []) (s2 := (81, [(0, .ref 0), (1, .int v1), (2, .int v2)], [.int (v2 - 10)], σ1)) 23 rfl rfl (trivial) ?_
            obtain ⟨r2, σ2, hc, h⟩ := bd_some h
            refine Rc.call (Ev.mono d) (v := some (.int r2)) (as := [.int (v2 - 10)]) (r := []) 24 rfl rfl rfl rfl (Nat.le_of_ble_eq_true rfl) (j_isUnit_s_ok (by omega) hc) ?_
            show Rc _ _ _ (84, [(0, .ref 0), (1, .int v1), (2, .int v2)], [.int r2], σ2) _
            refine Rc.blk (c := []) (s2 := (if r2 = 0 then 102 else 87, [(0, .ref 0), (1, .int v1), (2, .int v2)], [], σ2)) 25 rfl rfl (trivial) ?_
            by_cases c5 : r2 = 0
            · rw [if_pos c5] at h
              refine Rc.ifp c5 ?_
              exact j_of_0_b102_ok hd _ _ _ _ _ h
            · rw [if_neg c5] at h
              refine Rc.ifn c5 ?_
              obtain ⟨g3, h⟩ := gd_some h
              obtain ⟨g4, h⟩ := gd_some h
              refine Rc.blk (c := [_, _, _, _]) (s2 := (101, [(0, .ref 0), (1, .int v1), (2, .int v2)], [.int (σ2.1 (3 + 1 + v1.toNatClampNeg) (v2 - 10).toNatClampNeg)], σ2)) 26 rfl rfl (conj_c (rfl) (conj_c (rfl) (conj_c (⟨Or.inl rfl, inB_in g3⟩) (conj_c (arB_in g4) (trivial))))) ?_
              obtain ⟨rfl, rfl⟩ := some_pair h
              exact Rc.ret 27 rfl rfl rfl trivial ⟨rfl, rfl⟩
theorem j_twin_0_b56_ok {d : Nat} (hd : 1 ≤ d) {k16 : Int32 → Int32 → Sg → Option (Int32 × Sg)} (hk16 : ∀ (v1 : Int32) (v2 : Int32) (σ : Sg) (r : Int32) (σ2 : Sg), k16 v1 v2 σ = some (r, σ2) → Rc none (Ev MT CT d) sg61 (16, [(0, .ref 0), (1, .int v1), (2, .int v2)], [], σ) (fun v s => v = some (.int r) ∧ s = σ2)) (v1 : Int32) (v2 : Int32) (σ : Sg) (r : Int32) (σ2 : Sg) (h : j_twin_0_b56 k16 v1 v2 σ = some (r, σ2)) : Rc none (Ev MT CT d) sg61 (56, [(0, .ref 0), (1, .int v1), (2, .int v2)], [], σ) (fun v s => v = some (.int r) ∧ s = σ2) := by
  unfold j_twin_0_b56 at h
  refine Rc.blk (c := []) (s2 := (16, [(2, .int (v2 + 1)), (0, .ref 0), (1, .int v1)], [], σ)) 12 rfl rfl (trivial) ?_
  refine Rc.pick [1, 2, 0] (lv2 := [(0, .ref 0), (1, .int v1), (2, .int (v2 + 1))]) rfl ?_
  exact hk16 _ _ _ _ _ h
theorem j_twin_0_H16_ok {d : Nat} (hd : 1 ≤ d) {k16 : Int32 → Int32 → Sg → Option (Int32 × Sg)} (hk16 : ∀ (v1 : Int32) (v2 : Int32) (σ : Sg) (r : Int32) (σ2 : Sg), k16 v1 v2 σ = some (r, σ2) → Rc none (Ev MT CT d) sg61 (16, [(0, .ref 0), (1, .int v1), (2, .int v2)], [], σ) (fun v s => v = some (.int r) ∧ s = σ2)) (v1 : Int32) (v2 : Int32) (σ : Sg) (r : Int32) (σ2 : Sg) (h : j_twin_0_H16 k16 v1 v2 σ = some (r, σ2)) : Rc none (Ev MT CT d) sg61 (16, [(0, .ref 0), (1, .int v1), (2, .int v2)], [], σ) (fun v s => v = some (.int r) ∧ s = σ2) := by
  unfold j_twin_0_H16 at h
  refine Rc.blk (c := [_, _]) (s2 := (if (σ.1 51 0) ≤ v2 then 62 else 27, [(0, .ref 0), (1, .int v1), (2, .int v2)], [], σ)) 7 rfl rfl (conj_c (rfl) (conj_c (rfl) (trivial))) ?_
  by_cases c5 : (σ.1 51 0) ≤ v2
  · rw [if_pos c5] at h
    refine Rc.ifp c5 ?_
    refine Rc.blk (c := []) (s2 := (64, [(0, .ref 0), (1, .int v1), (2, .int v2)], [.int (-9)], σ)) 13 rfl rfl (trivial) ?_
    obtain ⟨rfl, rfl⟩ := some_pair h
    exact Rc.ret 14 rfl rfl rfl trivial ⟨rfl, rfl⟩
  · rw [if_neg c5] at h
    refine Rc.ifn c5 ?_
    refine Rc.blk (c := []) (s2 := (if v2 = v1 then 56 else 32, [(0, .ref 0), (1, .int v1), (2, .int v2)], [], σ)) 8 rfl rfl (trivial) ?_
    by_cases c4 : v2 = v1
    · rw [if_pos c4] at h
      refine Rc.ifp c4 ?_
      exact j_twin_0_b56_ok hd hk16 _ _ _ _ _ h
    · rw [if_neg c4] at h
      refine Rc.ifn c4 ?_
      obtain ⟨g1, h⟩ := gd_some h
      obtain ⟨g2, h⟩ := gd_some h
      refine Rc.blk (c := [_, _, _, _, _, _]) (s2 := (if ¬ (lg_cmp (σ.2 61 v2.toNatClampNeg) (σ.2 61 v1.toNatClampNeg)) = 0 then 56 else 54, [(0, .ref 0), (1, .int v1), (2, .int v2)], [], σ)) 9 rfl rfl (conj_c (rfl) (conj_c (rfl) (conj_c (⟨rfl, inB_in g1⟩) (conj_c (rfl) (conj_c (rfl) (conj_c (⟨rfl, inB_in g2⟩) (trivial))))))) ?_
      by_cases c3 : (lg_cmp (σ.2 61 v2.toNatClampNeg) (σ.2 61 v1.toNatClampNeg)) = 0
      · rw [if_pos c3] at h
        refine Rc.ifn (fun q => q c3) ?_
        refine Rc.blk (c := []) (s2 := (55, [(0, .ref 0), (1, .int v1), (2, .int v2)], [.int v2], σ)) 10 rfl rfl (trivial) ?_
        obtain ⟨rfl, rfl⟩ := some_pair h
        exact Rc.ret 11 rfl rfl rfl trivial ⟨rfl, rfl⟩
      · rw [if_neg c3] at h
        refine Rc.ifp c3 ?_
        exact j_twin_0_b56_ok hd hk16 _ _ _ _ _ h
theorem j_twin_0_L16_ok {d : Nat} (hd : 1 ≤ d) : ∀ (n : Nat) (v1 : Int32) (v2 : Int32) (σ : Sg) (r : Int32) (σ2 : Sg), j_twin_0_L16 n v1 v2 σ = some (r, σ2) → Rc none (Ev MT CT d) sg61 (16, [(0, .ref 0), (1, .int v1), (2, .int v2)], [], σ) (fun v s => v = some (.int r) ∧ s = σ2)
  | 0, _, _, _, _, _, h => by cases h
  | n + 1, v1, v2, σ, r, σ2, h => j_twin_0_H16_ok hd (j_twin_0_L16_ok hd n) v1 v2 σ r σ2 h
theorem j_twin_0_ok {d : Nat} (hd : 2 ≤ d) {v1 : Int32} {σ : Sg} {r : Int32} {σ2 : Sg} (h : j_twin_0 v1 σ = some (r, σ2)) : Ev MT CT d 61 [.ref 0, .int v1] σ (fun v s => v = some (.int r) ∧ s = σ2) := by
  obtain ⟨d, rfl⟩ : ∃ e, d = e + 1 := ⟨d - 1, by omega⟩
  refine ⟨Nat.le_of_ble_eq_true rfl, ?_⟩
  show Rc none (Ev MT CT d) sg61 (0, [(0, .ref 0), (1, .int v1)], [], σ) _
  unfold j_twin_0 at h
  have hd : 1 ≤ d := by omega
  refine Rc.blk (c := []) (s2 := (2, [(0, .ref 0), (1, .int v1)], [.int v1, .ref 0], σ)) 0 rfl rfl (trivial) ?_
  obtain ⟨r1, σ1, hc, h⟩ := bd_some h
  refine Rc.call (Ev.mono d) (v := some (.int r1)) (as := [.ref 0, .int v1]) (r := []) 1 rfl rfl rfl rfl ⟨rfl, Nat.le_of_ble_eq_true rfl⟩ (j_isQuantity_0_ok (by omega) hc) ?_
  show Rc _ _ _ (5, [(0, .ref 0), (1, .int v1)], [.int r1], σ1) _
  refine Rc.blk (c := []) (s2 := (if ¬ r1 = 0 then 14 else 8, [(0, .ref 0), (1, .int v1)], [], σ1)) 2 rfl rfl (trivial) ?_
  by_cases c3 : r1 = 0
  · rw [if_pos c3] at h
    refine Rc.ifn (fun q => q c3) ?_
    refine Rc.blk (c := []) (s2 := (10, [(0, .ref 0), (1, .int v1)], [.int (-1), .ref 0], σ1)) 3 rfl rfl (trivial) ?_
    obtain ⟨r2, σ2, hc, h⟩ := bd_some h
    refine Rc.call (Ev.mono d) (v := some (.int r2)) (as := [.ref 0, .int (-1)]) (r := []) 4 rfl rfl rfl rfl ⟨rfl, Nat.le_of_ble_eq_true rfl⟩ (j_refused_0_ok (by omega) hc) ?_
    show Rc _ _ _ (13, [(0, .ref 0), (1, .int v1)], [.int r2], σ2) _
    obtain ⟨rfl, rfl⟩ := some_pair h
    exact Rc.ret 5 rfl rfl rfl trivial ⟨rfl, rfl⟩
  · rw [if_neg c3] at h
    refine Rc.ifp c3 ?_
    refine Rc.blk (c := []) (s2 := (16, [(2, .int 0), (0, .ref 0), (1, .int v1)], [], σ1)) 6 rfl rfl (trivial) ?_
    refine Rc.pick [1, 2, 0] (lv2 := [(0, .ref 0), (1, .int v1), (2, .int 0)]) rfl ?_
    exact j_twin_0_L16_ok hd fu _ _ _ _ _ h
theorem j_taken_0_b82_ok {d : Nat} (hd : 1 ≤ d) (σ : Sg) (r : Int32) (σ2 : Sg) (h : j_taken_0_b82 σ = some (r, σ2)) : Rc none (Ev MT CT d) sg62 (82, [], [], σ) (fun v s => v = some (.int r) ∧ s = σ2) := by
  unfold j_taken_0_b82 at h
  refine Rc.blk (c := []) (s2 := (84, [], [.int (-16)], σ)) 21 rfl rfl (trivial) ?_
  obtain ⟨rfl, rfl⟩ := some_pair h
  exact Rc.ret 22 rfl rfl rfl trivial ⟨rfl, rfl⟩
theorem j_taken_0_H41_ok {d : Nat} (hd : 1 ≤ d) {k41 : Int32 → Int32 → Int32 → Int32 → Sg → Option (Int32 × Sg)} (hk41 : ∀ (v1 : Int32) (v2 : Int32) (v3 : Int32) (v4 : Int32) (σ : Sg) (r : Int32) (σ2 : Sg), k41 v1 v2 v3 v4 σ = some (r, σ2) → Rc none (Ev MT CT d) sg62 (41, [(0, .ref 0), (1, .int v1), (2, .int v2), (3, .int v3), (4, .int v4)], [], σ) (fun v s => v = some (.int r) ∧ s = σ2)) (v1 : Int32) (v2 : Int32) (v3 : Int32) (v4 : Int32) (σ : Sg) (r : Int32) (σ2 : Sg) (h : j_taken_0_H41 k41 v1 v2 v3 v4 σ = some (r, σ2)) : Rc none (Ev MT CT d) sg62 (41, [(0, .ref 0), (1, .int v1), (2, .int v2), (3, .int v3), (4, .int v4)], [], σ) (fun v s => v = some (.int r) ∧ s = σ2) := by
  unfold j_taken_0_H41 at h
  refine Rc.blk (c := []) (s2 := (if 6 ≤ v4 then 82 else 48, [(0, .ref 0), (1, .int v1), (2, .int v2), (3, .int v3), (4, .int v4)], [], σ)) 13 rfl rfl (trivial) ?_
  by_cases c6 : 6 ≤ v4
  · rw [if_pos c6] at h
    refine Rc.ifp c6 ?_
    refine Rc.pick [] (lv2 := []) rfl ?_
    exact j_taken_0_b82_ok hd _ _ _ h
  · rw [if_neg c6] at h
    refine Rc.ifn c6 ?_
    refine Rc.blk (c := []) (s2 := (49, [(0, .ref 0), (1, .int v1), (2, .int v2), (3, .int v3), (4, .int v4)], [.int v3], σ)) 14 rfl rfl (trivial) ?_
    obtain ⟨r1, σ1, hc, h⟩ := bd_some h
    refine Rc.call (Ev.mono d) (v := some (.int r1)) (as := [.int v3]) (r := []) 15 rfl rfl rfl rfl (Nat.le_of_ble_eq_true rfl) (j_isKind_s_ok (by omega) hc) ?_
    show Rc _ _ _ (52, [(0, .ref 0), (1, .int v1), (2, .int v2), (3, .int v3), (4, .int v4)], [.int r1], σ1) _
    refine Rc.blk (c := []) (s2 := (if r1 = 0 then 82 else 55, [(0, .ref 0), (1, .int v1), (2, .int v2), (3, .int v3), (4, .int v4)], [], σ1)) 16 rfl rfl (trivial) ?_
    by_cases c5 : r1 = 0
    · rw [if_pos c5] at h
      refine Rc.ifp c5 ?_
      refine Rc.pick [] (lv2 := []) rfl ?_
      exact j_taken_0_b82_ok hd _ _ _ h
    · rw [if_neg c5] at h
      refine Rc.ifn c5 ?_
      refine Rc.blk (c := []) (s2 := (if ¬ v3 = v2 then 70 else 60, [(0, .ref 0), (1, .int v1), (2, .int v2), (3, .int v3), (4, .int v4)], [], σ1)) 17 rfl rfl (trivial) ?_
      by_cases c4 : v3 = v2
      · rw [if_pos c4] at h
        refine Rc.ifn (fun q => q c4) ?_
        obtain ⟨g3, h⟩ := gd_some h
        refine Rc.blk (c := [_, _, _]) (s2 := (69, [(0, .ref 0), (1, .int v1), (2, .int v2), (3, .int v3), (4, .int v4)], [.int (σ1.1 2 v1.toNatClampNeg)], σ1)) 18 rfl rfl (conj_c (rfl) (conj_c (rfl) (conj_c (⟨rfl, inB_in g3⟩) (trivial)))) ?_
        obtain ⟨rfl, rfl⟩ := some_pair h
        exact Rc.ret 19 rfl rfl rfl trivial ⟨rfl, rfl⟩
      · rw [if_neg c4] at h
        refine Rc.ifp c4 ?_
        obtain ⟨g2, h⟩ := gd_some h
        refine Rc.blk (c := [_]) (s2 := (41, [(4, .int (v4 + 1)), (3, .int (sv 1000 v3.toNatClampNeg)), (0, .ref 0), (1, .int v1), (2, .int v2)], [], σ1)) 20 rfl rfl (conj_c (⟨by decide, inB_in g2⟩) (trivial)) ?_
        refine Rc.pick [2, 3, 4, 1, 0] (lv2 := [(0, .ref 0), (1, .int v1), (2, .int v2), (3, .int (sv 1000 v3.toNatClampNeg)), (4, .int (v4 + 1))]) rfl ?_
        exact hk41 _ _ _ _ _ _ _ h
theorem j_taken_0_L41_ok {d : Nat} (hd : 1 ≤ d) : ∀ (n : Nat) (v1 : Int32) (v2 : Int32) (v3 : Int32) (v4 : Int32) (σ : Sg) (r : Int32) (σ2 : Sg), j_taken_0_L41 n v1 v2 v3 v4 σ = some (r, σ2) → Rc none (Ev MT CT d) sg62 (41, [(0, .ref 0), (1, .int v1), (2, .int v2), (3, .int v3), (4, .int v4)], [], σ) (fun v s => v = some (.int r) ∧ s = σ2)
  | 0, _, _, _, _, _, _, _, h => by cases h
  | n + 1, v1, v2, v3, v4, σ, r, σ2, h => j_taken_0_H41_ok hd (j_taken_0_L41_ok hd n) v1 v2 v3 v4 σ r σ2 h
theorem j_taken_0_ok {d : Nat} (hd : 2 ≤ d) {v1 : Int32} {v2 : Int32} {σ : Sg} {r : Int32} {σ2 : Sg} (h : j_taken_0 v1 v2 σ = some (r, σ2)) : Ev MT CT d 62 [.ref 0, .int v1, .int v2] σ (fun v s => v = some (.int r) ∧ s = σ2) := by
  obtain ⟨d, rfl⟩ : ∃ e, d = e + 1 := ⟨d - 1, by omega⟩
  refine ⟨Nat.le_of_ble_eq_true rfl, ?_⟩
  show Rc none (Ev MT CT d) sg62 (0, [(0, .ref 0), (1, .int v1), (2, .int v2)], [], σ) _
  unfold j_taken_0 at h
  have hd : 1 ≤ d := by omega
  refine Rc.blk (c := []) (s2 := (2, [(0, .ref 0), (1, .int v1), (2, .int v2)], [.int v1, .ref 0], σ)) 0 rfl rfl (trivial) ?_
  obtain ⟨r1, σ1, hc, h⟩ := bd_some h
  refine Rc.call (Ev.mono d) (v := some (.int r1)) (as := [.ref 0, .int v1]) (r := []) 1 rfl rfl rfl rfl ⟨rfl, Nat.le_of_ble_eq_true rfl⟩ (j_isQuantity_0_ok (by omega) hc) ?_
  show Rc _ _ _ (5, [(0, .ref 0), (1, .int v1), (2, .int v2)], [.int r1], σ1) _
  refine Rc.blk (c := []) (s2 := (if ¬ r1 = 0 then 14 else 8, [(0, .ref 0), (1, .int v1), (2, .int v2)], [], σ1)) 2 rfl rfl (trivial) ?_
  by_cases c7 : r1 = 0
  · rw [if_pos c7] at h
    refine Rc.ifn (fun q => q c7) ?_
    refine Rc.blk (c := []) (s2 := (10, [(0, .ref 0), (1, .int v1), (2, .int v2)], [.int (-1), .ref 0], σ1)) 3 rfl rfl (trivial) ?_
    obtain ⟨r6, σ6, hc, h⟩ := bd_some h
    refine Rc.call (Ev.mono d) (v := some (.int r6)) (as := [.ref 0, .int (-1)]) (r := []) 4 rfl rfl rfl rfl ⟨rfl, Nat.le_of_ble_eq_true rfl⟩ (j_refused_0_ok (by omega) hc) ?_
    show Rc _ _ _ (13, [(0, .ref 0), (1, .int v1), (2, .int v2)], [.int r6], σ6) _
    obtain ⟨rfl, rfl⟩ := some_pair h
    exact Rc.ret 5 rfl rfl rfl trivial ⟨rfl, rfl⟩
  · rw [if_neg c7] at h
    refine Rc.ifp c7 ?_
    refine Rc.blk (c := []) (s2 := (15, [(0, .ref 0), (1, .int v1), (2, .int v2)], [.int v2], σ1)) 6 rfl rfl (trivial) ?_
    obtain ⟨r2, σ2, hc, h⟩ := bd_some h
    refine Rc.call (Ev.mono d) (v := some (.int r2)) (as := [.int v2]) (r := []) 7 rfl rfl rfl rfl (Nat.le_of_ble_eq_true rfl) (j_isKind_s_ok (by omega) hc) ?_
    show Rc _ _ _ (18, [(0, .ref 0), (1, .int v1), (2, .int v2)], [.int r2], σ2) _
    refine Rc.blk (c := []) (s2 := (if ¬ r2 = 0 then 28 else 21, [(0, .ref 0), (1, .int v1), (2, .int v2)], [], σ2)) 8 rfl rfl (trivial) ?_
    by_cases c5 : r2 = 0
    · rw [if_pos c5] at h
      refine Rc.ifn (fun q => q c5) ?_
      refine Rc.blk (c := []) (s2 := (24, [(0, .ref 0), (1, .int v1), (2, .int v2)], [.int (-2), .ref 0], σ2)) 9 rfl rfl (trivial) ?_
      obtain ⟨r4, σ4, hc, h⟩ := bd_some h
      refine Rc.call (Ev.mono d) (v := some (.int r4)) (as := [.ref 0, .int (-2)]) (r := []) 10 rfl rfl rfl rfl ⟨rfl, Nat.le_of_ble_eq_true rfl⟩ (j_refused_0_ok (by omega) hc) ?_
      show Rc _ _ _ (27, [(0, .ref 0), (1, .int v1), (2, .int v2)], [.int r4], σ4) _
      obtain ⟨rfl, rfl⟩ := some_pair h
      exact Rc.ret 11 rfl rfl rfl trivial ⟨rfl, rfl⟩
    · rw [if_neg c5] at h
      refine Rc.ifp c5 ?_
      obtain ⟨g3, h⟩ := gd_some h
      refine Rc.blk (c := [_, _, _]) (s2 := (41, [(4, .int 0), (3, .int (σ2.1 2 v1.toNatClampNeg)), (0, .ref 0), (1, .int v1), (2, .int v2)], [], σ2)) 12 rfl rfl (conj_c (rfl) (conj_c (rfl) (conj_c (⟨rfl, inB_in g3⟩) (trivial)))) ?_
      refine Rc.pick [2, 3, 4, 1, 0] (lv2 := [(0, .ref 0), (1, .int v1), (2, .int v2), (3, .int (σ2.1 2 v1.toNatClampNeg)), (4, .int 0)]) rfl ?_
      exact j_taken_0_L41_ok hd fu _ _ _ _ _ _ _ h
theorem j_differentDimensions_51_b64_ok {d : Nat} (hd : 0 ≤ d) {k4 : Int32 → Int32 → Sg → Option (Int32 × Sg)} (hk4 : ∀ (v1 : Int32) (v2 : Int32) (σ : Sg) (r : Int32) (σ2 : Sg), k4 v1 v2 σ = some (r, σ2) → Rc none (Ev MT CT d) sg53 (4, [(0, .ref 51), (1, .int v1), (2, .int v2)], [], σ) (fun v s => v = some (.int r) ∧ s = σ2)) (v2 : Int32) (s0 : Int32) (s1 : Int32) (σ : Sg) (r : Int32) (σ2 : Sg) (h : j_differentDimensions_51_b64 k4 v2 s0 s1 σ = some (r, σ2)) : Rc none (Ev MT CT d) sg53 (64, [(0, .ref 51), (2, .int v2)], [.int s1, .int s0], σ) (fun v s => v = some (.int r) ∧ s = σ2) := by
  unfold j_differentDimensions_51_b64 at h
  refine Rc.blk (c := []) (s2 := (4, [(2, .int (v2 + 1)), (1, .int (s0 + s1)), (0, .ref 51)], [], σ)) 11 rfl rfl (trivial) ?_
  refine Rc.pick [2, 1, 0] (lv2 := [(0, .ref 51), (1, .int (s0 + s1)), (2, .int (v2 + 1))]) rfl ?_
  exact hk4 _ _ _ _ _ h
theorem j_differentDimensions_51_b46_ok {d : Nat} (hd : 0 ≤ d) {k4 : Int32 → Int32 → Sg → Option (Int32 × Sg)} {k17 : Int32 → Int32 → Int32 → Int32 → Sg → Option (Int32 × Sg)} (hk4 : ∀ (v1 : Int32) (v2 : Int32) (σ : Sg) (r : Int32) (σ2 : Sg), k4 v1 v2 σ = some (r, σ2) → Rc none (Ev MT CT d) sg53 (4, [(0, .ref 51), (1, .int v1), (2, .int v2)], [], σ) (fun v s => v = some (.int r) ∧ s = σ2)) (hk17 : ∀ (v1 : Int32) (v2 : Int32) (v3 : Int32) (v4 : Int32) (σ : Sg) (r : Int32) (σ2 : Sg), k17 v1 v2 v3 v4 σ = some (r, σ2) → Rc none (Ev MT CT d) sg53 (17, [(0, .ref 51), (1, .int v1), (2, .int v2), (3, .int v3), (4, .int v4)], [], σ) (fun v s => v = some (.int r) ∧ s = σ2)) (v1 : Int32) (v2 : Int32) (v4 : Int32) (s0 : Int32) (s1 : Int32) (σ : Sg) (r : Int32) (σ2 : Sg) (h : j_differentDimensions_51_b46 k4 k17 v1 v2 v4 s0 s1 σ = some (r, σ2)) : Rc none (Ev MT CT d) sg53 (46, [(0, .ref 51), (1, .int v1), (2, .int v2), (4, .int v4)], [.int s1, .int s0], σ) (fun v s => v = some (.int r) ∧ s = σ2) := by
  unfold j_differentDimensions_51_b46 at h
  refine Rc.blk (c := []) (s2 := (17, [(4, .int (v4 + 1)), (3, .int (s0 + s1)), (0, .ref 51), (1, .int v1), (2, .int v2)], [], σ)) 7 rfl rfl (trivial) ?_
  refine Rc.pick [2, 3, 4, 1, 0] (lv2 := [(0, .ref 51), (1, .int v1), (2, .int v2), (3, .int (s0 + s1)), (4, .int (v4 + 1))]) rfl ?_
  exact hk17 _ _ _ _ _ _ _ h
theorem j_differentDimensions_51_H17_ok {d : Nat} (hd : 0 ≤ d) {k4 : Int32 → Int32 → Sg → Option (Int32 × Sg)} {k17 : Int32 → Int32 → Int32 → Int32 → Sg → Option (Int32 × Sg)} (hk4 : ∀ (v1 : Int32) (v2 : Int32) (σ : Sg) (r : Int32) (σ2 : Sg), k4 v1 v2 σ = some (r, σ2) → Rc none (Ev MT CT d) sg53 (4, [(0, .ref 51), (1, .int v1), (2, .int v2)], [], σ) (fun v s => v = some (.int r) ∧ s = σ2)) (hk17 : ∀ (v1 : Int32) (v2 : Int32) (v3 : Int32) (v4 : Int32) (σ : Sg) (r : Int32) (σ2 : Sg), k17 v1 v2 v3 v4 σ = some (r, σ2) → Rc none (Ev MT CT d) sg53 (17, [(0, .ref 51), (1, .int v1), (2, .int v2), (3, .int v3), (4, .int v4)], [], σ) (fun v s => v = some (.int r) ∧ s = σ2)) (v1 : Int32) (v2 : Int32) (v3 : Int32) (v4 : Int32) (σ : Sg) (r : Int32) (σ2 : Sg) (h : j_differentDimensions_51_H17 k4 k17 v1 v2 v3 v4 σ = some (r, σ2)) : Rc none (Ev MT CT d) sg53 (17, [(0, .ref 51), (1, .int v1), (2, .int v2), (3, .int v3), (4, .int v4)], [], σ) (fun v s => v = some (.int r) ∧ s = σ2) := by
  unfold j_differentDimensions_51_H17 at h
  refine Rc.blk (c := []) (s2 := (if v2 ≤ v4 then 54 else 23, [(0, .ref 51), (1, .int v1), (2, .int v2), (3, .int v3), (4, .int v4)], [], σ)) 3 rfl rfl (trivial) ?_
  by_cases c5 : v2 ≤ v4
  · rw [if_pos c5] at h
    refine Rc.ifp c5 ?_
    refine Rc.blk (c := []) (s2 := (if ¬ v3 = 0 then 63 else 59, [(0, .ref 51), (1, .int v1), (2, .int v2), (3, .int v3), (4, .int v4)], [.int v1], σ)) 8 rfl rfl (trivial) ?_
    by_cases c1 : v3 = 0
    · rw [if_pos c1] at h
      refine Rc.ifn (fun q => q c1) ?_
      refine Rc.blk (c := []) (s2 := (64, [(0, .ref 51), (1, .int v1), (2, .int v2), (3, .int v3), (4, .int v4)], [.int 1, .int v1], σ)) 9 rfl rfl (trivial) ?_
      refine Rc.pick [0, 2] (lv2 := [(0, .ref 51), (2, .int v2)]) rfl ?_
      exact j_differentDimensions_51_b64_ok hd hk4 _ _ _ _ _ _ h
    · rw [if_neg c1] at h
      refine Rc.ifp c1 ?_
      refine Rc.blk (c := []) (s2 := (64, [(0, .ref 51), (1, .int v1), (2, .int v2), (3, .int v3), (4, .int v4)], [.int 0, .int v1], σ)) 10 rfl rfl (trivial) ?_
      refine Rc.pick [0, 2] (lv2 := [(0, .ref 51), (2, .int v2)]) rfl ?_
      exact j_differentDimensions_51_b64_ok hd hk4 _ _ _ _ _ _ h
  · rw [if_neg c5] at h
    refine Rc.ifn c5 ?_
    obtain ⟨g2, h⟩ := gd_some h
    obtain ⟨g3, h⟩ := gd_some h
    refine Rc.blk (c := [_, _, _, _]) (s2 := (if ¬ (lg_cmp (σ.2 61 v4.toNatClampNeg) (σ.2 61 v2.toNatClampNeg)) = 0 then 45 else 41, [(0, .ref 51), (1, .int v1), (2, .int v2), (3, .int v3), (4, .int v4)], [.int v3], σ)) 4 rfl rfl (conj_c (rfl) (conj_c (⟨rfl, inB_in g2⟩) (conj_c (rfl) (conj_c (⟨rfl, inB_in g3⟩) (trivial))))) ?_
    by_cases c4 : (lg_cmp (σ.2 61 v4.toNatClampNeg) (σ.2 61 v2.toNatClampNeg)) = 0
    · rw [if_pos c4] at h
      refine Rc.ifn (fun q => q c4) ?_
      refine Rc.blk (c := []) (s2 := (46, [(0, .ref 51), (1, .int v1), (2, .int v2), (3, .int v3), (4, .int v4)], [.int 1, .int v3], σ)) 5 rfl rfl (trivial) ?_
      refine Rc.pick [0, 1, 2, 4] (lv2 := [(0, .ref 51), (1, .int v1), (2, .int v2), (4, .int v4)]) rfl ?_
      exact j_differentDimensions_51_b46_ok hd hk4 hk17 _ _ _ _ _ _ _ _ h
    · rw [if_neg c4] at h
      refine Rc.ifp c4 ?_
      refine Rc.blk (c := []) (s2 := (46, [(0, .ref 51), (1, .int v1), (2, .int v2), (3, .int v3), (4, .int v4)], [.int 0, .int v3], σ)) 6 rfl rfl (trivial) ?_
      refine Rc.pick [0, 1, 2, 4] (lv2 := [(0, .ref 51), (1, .int v1), (2, .int v2), (4, .int v4)]) rfl ?_
      exact j_differentDimensions_51_b46_ok hd hk4 hk17 _ _ _ _ _ _ _ _ h
theorem j_differentDimensions_51_L17_ok {d : Nat} (hd : 0 ≤ d) {k4 : Int32 → Int32 → Sg → Option (Int32 × Sg)} (hk4 : ∀ (v1 : Int32) (v2 : Int32) (σ : Sg) (r : Int32) (σ2 : Sg), k4 v1 v2 σ = some (r, σ2) → Rc none (Ev MT CT d) sg53 (4, [(0, .ref 51), (1, .int v1), (2, .int v2)], [], σ) (fun v s => v = some (.int r) ∧ s = σ2)) : ∀ (n : Nat) (v1 : Int32) (v2 : Int32) (v3 : Int32) (v4 : Int32) (σ : Sg) (r : Int32) (σ2 : Sg), j_differentDimensions_51_L17 k4 n v1 v2 v3 v4 σ = some (r, σ2) → Rc none (Ev MT CT d) sg53 (17, [(0, .ref 51), (1, .int v1), (2, .int v2), (3, .int v3), (4, .int v4)], [], σ) (fun v s => v = some (.int r) ∧ s = σ2)
  | 0, _, _, _, _, _, _, _, h => by cases h
  | n + 1, v1, v2, v3, v4, σ, r, σ2, h => j_differentDimensions_51_H17_ok hd hk4 (j_differentDimensions_51_L17_ok hd hk4 n) v1 v2 v3 v4 σ r σ2 h
theorem j_differentDimensions_51_H4_ok {d : Nat} (hd : 0 ≤ d) {k4 : Int32 → Int32 → Sg → Option (Int32 × Sg)} (hk4 : ∀ (v1 : Int32) (v2 : Int32) (σ : Sg) (r : Int32) (σ2 : Sg), k4 v1 v2 σ = some (r, σ2) → Rc none (Ev MT CT d) sg53 (4, [(0, .ref 51), (1, .int v1), (2, .int v2)], [], σ) (fun v s => v = some (.int r) ∧ s = σ2)) (v1 : Int32) (v2 : Int32) (σ : Sg) (r : Int32) (σ2 : Sg) (h : j_differentDimensions_51_H4 k4 v1 v2 σ = some (r, σ2)) : Rc none (Ev MT CT d) sg53 (4, [(0, .ref 51), (1, .int v1), (2, .int v2)], [], σ) (fun v s => v = some (.int r) ∧ s = σ2) := by
  unfold j_differentDimensions_51_H4 at h
  refine Rc.blk (c := [_]) (s2 := (if (σ.1 51 0) ≤ v2 then 72 else 12, [(0, .ref 51), (1, .int v1), (2, .int v2)], [], σ)) 1 rfl rfl (conj_c (rfl) (trivial)) ?_
  by_cases c1 : (σ.1 51 0) ≤ v2
  · rw [if_pos c1] at h
    refine Rc.ifp c1 ?_
    refine Rc.blk (c := []) (s2 := (73, [(0, .ref 51), (1, .int v1), (2, .int v2)], [.int v1], σ)) 12 rfl rfl (trivial) ?_
    obtain ⟨rfl, rfl⟩ := some_pair h
    exact Rc.ret 13 rfl rfl rfl trivial ⟨rfl, rfl⟩
  · rw [if_neg c1] at h
    refine Rc.ifn c1 ?_
    refine Rc.blk (c := []) (s2 := (17, [(4, .int 0), (3, .int 0), (0, .ref 51), (1, .int v1), (2, .int v2)], [], σ)) 2 rfl rfl (trivial) ?_
    refine Rc.pick [2, 3, 4, 1, 0] (lv2 := [(0, .ref 51), (1, .int v1), (2, .int v2), (3, .int 0), (4, .int 0)]) rfl ?_
    exact j_differentDimensions_51_L17_ok hd hk4 fu _ _ _ _ _ _ _ h
theorem j_differentDimensions_51_L4_ok {d : Nat} (hd : 0 ≤ d) : ∀ (n : Nat) (v1 : Int32) (v2 : Int32) (σ : Sg) (r : Int32) (σ2 : Sg), j_differentDimensions_51_L4 n v1 v2 σ = some (r, σ2) → Rc none (Ev MT CT d) sg53 (4, [(0, .ref 51), (1, .int v1), (2, .int v2)], [], σ) (fun v s => v = some (.int r) ∧ s = σ2)
  | 0, _, _, _, _, _, h => by cases h
  | n + 1, v1, v2, σ, r, σ2, h => j_differentDimensions_51_H4_ok hd (j_differentDimensions_51_L4_ok hd n) v1 v2 σ r σ2 h
theorem j_differentDimensions_51_ok {d : Nat} (hd : 1 ≤ d) {σ : Sg} {r : Int32} {σ2 : Sg} (h : j_differentDimensions_51 σ = some (r, σ2)) : Ev MT CT d 53 [.ref 51] σ (fun v s => v = some (.int r) ∧ s = σ2) := by
  obtain ⟨d, rfl⟩ : ∃ e, d = e + 1 := ⟨d - 1, by omega⟩
  refine ⟨Nat.le_of_ble_eq_true rfl, ?_⟩
  show Rc none (Ev MT CT d) sg53 (0, [(0, .ref 51)], [], σ) _
  unfold j_differentDimensions_51 at h
  have hd : 0 ≤ d := by omega
  refine Rc.blk (c := []) (s2 := (4, [(2, .int 0), (1, .int 0), (0, .ref 51)], [], σ)) 0 rfl rfl (trivial) ?_
  refine Rc.pick [2, 1, 0] (lv2 := [(0, .ref 51), (1, .int 0), (2, .int 0)]) rfl ?_
  exact j_differentDimensions_51_L4_ok hd fu _ _ _ _ _ h
theorem j_rank_0_b73_ok {d : Nat} (hd : 1 ≤ d) (s0 : Int32) (σ : Sg) (r : Int32) (σ2 : Sg) (h : j_rank_0_b73 s0 σ = some (r, σ2)) : Rc none (Ev MT CT d) sg63 (73, [], [.int s0], σ) (fun v s => v = some (.int r) ∧ s = σ2) := by
  unfold j_rank_0_b73 at h
  obtain ⟨rfl, rfl⟩ := some_pair h
  exact Rc.ret 16 rfl rfl rfl trivial ⟨rfl, rfl⟩
theorem j_rank_0_ok {d : Nat} (hd : 2 ≤ d) {v1 : Int32} {σ : Sg} {r : Int32} {σ2 : Sg} (h : j_rank_0 v1 σ = some (r, σ2)) : Ev MT CT d 63 [.ref 0, .int v1] σ (fun v s => v = some (.int r) ∧ s = σ2) := by
  obtain ⟨d, rfl⟩ : ∃ e, d = e + 1 := ⟨d - 1, by omega⟩
  refine ⟨Nat.le_of_ble_eq_true rfl, ?_⟩
  show Rc none (Ev MT CT d) sg63 (0, [(0, .ref 0), (1, .int v1)], [], σ) _
  unfold j_rank_0 at h
  have hd : 1 ≤ d := by omega
  refine Rc.blk (c := []) (s2 := (if ¬ v1 = 0 then 15 else 4, [(0, .ref 0), (1, .int v1)], [], σ)) 0 rfl rfl (trivial) ?_
  by_cases c7 : v1 = 0
  · rw [if_pos c7] at h
    refine Rc.ifn (fun q => q c7) ?_
    refine Rc.blk (c := [_, _, _]) (s2 := (14, [(0, .ref 0), (1, .int v1)], [.int (σ.1 62 3)], σ)) 1 rfl rfl (conj_c (rfl) (conj_c (rfl) (conj_c (rfl) (trivial)))) ?_
    obtain ⟨rfl, rfl⟩ := some_pair h
    exact Rc.ret 2 rfl rfl rfl trivial ⟨rfl, rfl⟩
  · rw [if_neg c7] at h
    refine Rc.ifp c7 ?_
    refine Rc.blk (c := []) (s2 := (if ¬ v1 = 1 then 39 else 20, [(0, .ref 0), (1, .int v1)], [], σ)) 3 rfl rfl (trivial) ?_
    by_cases c6 : v1 = 1
    · rw [if_pos c6] at h
      refine Rc.ifn (fun q => q c6) ?_
      refine Rc.blk (c := [_, _, _, _, _]) (s2 := (38, [(0, .ref 0), (1, .int v1)], [.int ((σ.1 51 0) - (σ.1 62 3))], σ)) 4 rfl rfl (conj_c (rfl) (conj_c (rfl) (conj_c (rfl) (conj_c (rfl) (conj_c (rfl) (trivial)))))) ?_
      obtain ⟨rfl, rfl⟩ := some_pair h
      exact Rc.ret 5 rfl rfl rfl trivial ⟨rfl, rfl⟩
    · rw [if_neg c6] at h
      refine Rc.ifp c6 ?_
      refine Rc.blk (c := []) (s2 := (if ¬ v1 = 2 then 52 else 44, [(0, .ref 0), (1, .int v1)], [], σ)) 6 rfl rfl (trivial) ?_
      by_cases c5 : v1 = 2
      · rw [if_pos c5] at h
        refine Rc.ifn (fun q => q c5) ?_
        refine Rc.blk (c := [_]) (s2 := (48, [(0, .ref 0), (1, .int v1)], [.ref 51], σ)) 7 rfl rfl (conj_c (rfl) (trivial)) ?_
        obtain ⟨r4, σ4, hc, h⟩ := bd_some h
        refine Rc.call (Ev.mono d) (v := some (.int r4)) (as := [.ref 51]) (r := []) 8 rfl rfl rfl rfl ⟨rfl, Nat.le_of_ble_eq_true rfl⟩ (j_looseSet_51_ok (by omega) hc) ?_
        show Rc _ _ _ (51, [(0, .ref 0), (1, .int v1)], [.int r4], σ4) _
        obtain ⟨rfl, rfl⟩ := some_pair h
        exact Rc.ret 9 rfl rfl rfl trivial ⟨rfl, rfl⟩
      · rw [if_neg c5] at h
        refine Rc.ifp c5 ?_
        refine Rc.blk (c := []) (s2 := (if ¬ v1 = 3 then 67 else 57, [(0, .ref 0), (1, .int v1)], [], σ)) 10 rfl rfl (trivial) ?_
        by_cases c3 : v1 = 3
        · rw [if_pos c3] at h
          refine Rc.ifn (fun q => q c3) ?_
          refine Rc.blk (c := [_]) (s2 := (61, [(0, .ref 0), (1, .int v1)], [.ref 51], σ)) 11 rfl rfl (conj_c (rfl) (trivial)) ?_
          obtain ⟨r2, σ2, hc, h⟩ := bd_some h
          refine Rc.call (Ev.mono d) (v := some (.int r2)) (as := [.ref 51]) (r := []) 12 rfl rfl rfl rfl ⟨rfl, Nat.le_of_ble_eq_true rfl⟩ (j_differentDimensions_51_ok (by omega) hc) ?_
          show Rc _ _ _ (64, [(0, .ref 0), (1, .int v1)], [.int r2], σ2) _
          refine Rc.blk (c := []) (s2 := (73, [(0, .ref 0), (1, .int v1)], [.int r2], σ2)) 13 rfl rfl (trivial) ?_
          refine Rc.pick [] (lv2 := []) rfl ?_
          exact j_rank_0_b73_ok hd _ _ _ _ h
        · rw [if_neg c3] at h
          refine Rc.ifp c3 ?_
          refine Rc.blk (c := []) (s2 := (70, [(0, .ref 0), (1, .int v1)], [.int (-2), .ref 0], σ)) 14 rfl rfl (trivial) ?_
          obtain ⟨r1, σ1, hc, h⟩ := bd_some h
          refine Rc.call (Ev.mono d) (v := some (.int r1)) (as := [.ref 0, .int (-2)]) (r := []) 15 rfl rfl rfl rfl ⟨rfl, Nat.le_of_ble_eq_true rfl⟩ (j_refused_0_ok (by omega) hc) ?_
          show Rc _ _ _ (73, [(0, .ref 0), (1, .int v1)], [.int r1], σ1) _
          refine Rc.pick [] (lv2 := []) rfl ?_
          exact j_rank_0_b73_ok hd _ _ _ _ h
theorem j_fillAII_113_H5_ok {d : Nat} (hd : 0 ≤ d) {k5 : Int32 → Int32 → Int32 → Sg → Option (Unit × Sg)} (hk5 : ∀ (v1 : Int32) (v2 : Int32) (v3 : Int32) (σ : Sg) (r : Unit) (σ2 : Sg), k5 v1 v2 v3 σ = some (r, σ2) → Rc none (Ev MT CT d) sg230 (5, [(0, .ref 113), (1, .int v1), (2, .int v2), (3, .int v3)], [], σ) (fun v s => v = none ∧ s = σ2)) (v1 : Int32) (v2 : Int32) (v3 : Int32) (σ : Sg) (r : Unit) (σ2 : Sg) (h : j_fillAII_113_H5 k5 v1 v2 v3 σ = some (r, σ2)) : Rc none (Ev MT CT d) sg230 (5, [(0, .ref 113), (1, .int v1), (2, .int v2), (3, .int v3)], [], σ) (fun v s => v = none ∧ s = σ2) := by
  unfold j_fillAII_113_H5 at h
  refine Rc.blk (c := []) (s2 := (if v3 ≤ v2 then 20 else 10, [(0, .ref 113), (1, .int v1), (2, .int v2), (3, .int v3)], [], σ)) 1 rfl rfl (trivial) ?_
  by_cases c2 : v3 ≤ v2
  · rw [if_pos c2] at h
    refine Rc.ifp c2 ?_
    obtain ⟨rfl, rfl⟩ := some_pair h
    exact Rc.ret 3 rfl rfl rfl trivial ⟨rfl, rfl⟩
  · rw [if_neg c2] at h
    refine Rc.ifn c2 ?_
    obtain ⟨g1, h⟩ := gd_some h
    refine Rc.blk (c := [_]) (s2 := (5, [(2, .int (v2 + 1)), (0, .ref 113), (1, .int v1), (3, .int v3)], [], si σ 113 v2.toNatClampNeg v1)) 2 rfl rfl (conj_c (⟨rfl, inB_in g1⟩) (trivial)) ?_
    refine Rc.pick [1, 2, 0, 3] (lv2 := [(0, .ref 113), (1, .int v1), (2, .int (v2 + 1)), (3, .int v3)]) rfl ?_
    exact hk5 _ _ _ _ _ _ h
theorem j_fillAII_113_L5_ok {d : Nat} (hd : 0 ≤ d) : ∀ (n : Nat) (v1 : Int32) (v2 : Int32) (v3 : Int32) (σ : Sg) (r : Unit) (σ2 : Sg), j_fillAII_113_L5 n v1 v2 v3 σ = some (r, σ2) → Rc none (Ev MT CT d) sg230 (5, [(0, .ref 113), (1, .int v1), (2, .int v2), (3, .int v3)], [], σ) (fun v s => v = none ∧ s = σ2)
  | 0, _, _, _, _, _, _, h => by cases h
  | n + 1, v1, v2, v3, σ, r, σ2, h => j_fillAII_113_H5_ok hd (j_fillAII_113_L5_ok hd n) v1 v2 v3 σ r σ2 h
theorem j_fillAII_113_ok {d : Nat} (hd : 1 ≤ d) {v1 : Int32} {σ : Sg} {r : Unit} {σ2 : Sg} (h : j_fillAII_113 v1 σ = some (r, σ2)) : Ev MT CT d 230 [.ref 113, .int v1] σ (fun v s => v = none ∧ s = σ2) := by
  obtain ⟨d, rfl⟩ : ∃ e, d = e + 1 := ⟨d - 1, by omega⟩
  refine ⟨Nat.le_of_ble_eq_true rfl, ?_⟩
  show Rc none (Ev MT CT d) sg230 (0, [(0, .ref 113), (1, .int v1)], [], σ) _
  unfold j_fillAII_113 at h
  have hd : 0 ≤ d := by omega
  refine Rc.blk (c := [_]) (s2 := (5, [(3, .int 8), (2, .int 0), (0, .ref 113), (1, .int v1)], [], σ)) 0 rfl rfl (conj_c ((by decide)) (trivial)) ?_
  refine Rc.pick [2, 3, 1, 0] (lv2 := [(0, .ref 113), (1, .int v1), (2, .int 0), (3, .int 8)]) rfl ?_
  exact j_fillAII_113_L5_ok hd fu _ _ _ _ _ _ h
theorem j_greatestDivisor_s_b51_ok {d : Nat} (hd : 0 ≤ d) (v4 : Int64) (σ : Sg) (r : Int64) (σ2 : Sg) (h : j_greatestDivisor_s_b51 v4 σ = some (r, σ2)) : Rc none (Ev MT CT d) sg115 (51, [(4, .long v4)], [], σ) (fun v s => v = some (.long r) ∧ s = σ2) := by
  unfold j_greatestDivisor_s_b51 at h
  refine Rc.blk (c := []) (s2 := (53, [(4, .long v4)], [.long v4], σ)) 4 rfl rfl (trivial) ?_
  obtain ⟨rfl, rfl⟩ := some_pair h
  exact Rc.ret 5 rfl rfl rfl trivial ⟨rfl, rfl⟩
theorem j_greatestDivisor_s_H15_ok {d : Nat} (hd : 0 ≤ d) {k15 : Int64 → Int64 → Int32 → Sg → Option (Int64 × Sg)} (hk15 : ∀ (v4 : Int64) (v6 : Int64) (v8 : Int32) (σ : Sg) (r : Int64) (σ2 : Sg), k15 v4 v6 v8 σ = some (r, σ2) → Rc none (Ev MT CT d) sg115 (15, [(4, .long v4), (6, .long v6), (8, .int v8)], [], σ) (fun v s => v = some (.long r) ∧ s = σ2)) (v4 : Int64) (v6 : Int64) (v8 : Int32) (σ : Sg) (r : Int64) (σ2 : Sg) (h : j_greatestDivisor_s_H15 k15 v4 v6 v8 σ = some (r, σ2)) : Rc none (Ev MT CT d) sg115 (15, [(4, .long v4), (6, .long v6), (8, .int v8)], [], σ) (fun v s => v = some (.long r) ∧ s = σ2) := by
  unfold j_greatestDivisor_s_H15 at h
  refine Rc.blk (c := []) (s2 := (if 200 ≤ v8 then 51 else 23, [(4, .long v4), (6, .long v6), (8, .int v8)], [], σ)) 1 rfl rfl (trivial) ?_
  by_cases c3 : 200 ≤ v8
  · rw [if_pos c3] at h
    refine Rc.ifp c3 ?_
    refine Rc.pick [0] (lv2 := [(4, .long v4)]) rfl ?_
    exact j_greatestDivisor_s_b51_ok hd _ _ _ _ h
  · rw [if_neg c3] at h
    refine Rc.ifn c3 ?_
    refine Rc.blk (c := []) (s2 := (if (lg_cmp v6 0) = 0 then 51 else 30, [(4, .long v4), (6, .long v6), (8, .int v8)], [], σ)) 2 rfl rfl (trivial) ?_
    by_cases c2 : (lg_cmp v6 0) = 0
    · rw [if_pos c2] at h
      refine Rc.ifp c2 ?_
      refine Rc.pick [0] (lv2 := [(4, .long v4)]) rfl ?_
      exact j_greatestDivisor_s_b51_ok hd _ _ _ _ h
    · rw [if_neg c2] at h
      refine Rc.ifn c2 ?_
      obtain ⟨g1, h⟩ := gd_some h
      refine Rc.blk (c := [_]) (s2 := (15, [(8, .int (v8 + 1)), (6, .long (lrm v4 v6)), (4, .long v6), (9, .long (lrm v4 v6))], [], σ)) 3 rfl rfl (conj_c (neBL_ne g1) (trivial)) ?_
      refine Rc.pick [2, 1, 0] (lv2 := [(4, .long v6), (6, .long (lrm v4 v6)), (8, .int (v8 + 1))]) rfl ?_
      exact hk15 _ _ _ _ _ _ h
theorem j_greatestDivisor_s_L15_ok {d : Nat} (hd : 0 ≤ d) : ∀ (n : Nat) (v4 : Int64) (v6 : Int64) (v8 : Int32) (σ : Sg) (r : Int64) (σ2 : Sg), j_greatestDivisor_s_L15 n v4 v6 v8 σ = some (r, σ2) → Rc none (Ev MT CT d) sg115 (15, [(4, .long v4), (6, .long v6), (8, .int v8)], [], σ) (fun v s => v = some (.long r) ∧ s = σ2)
  | 0, _, _, _, _, _, _, h => by cases h
  | n + 1, v4, v6, v8, σ, r, σ2, h => j_greatestDivisor_s_H15_ok hd (j_greatestDivisor_s_L15_ok hd n) v4 v6 v8 σ r σ2 h
theorem j_greatestDivisor_s_ok {d : Nat} (hd : 1 ≤ d) {v0 : Int64} {v2 : Int64} {σ : Sg} {r : Int64} {σ2 : Sg} (h : j_greatestDivisor_s v0 v2 σ = some (r, σ2)) : Ev MT CT d 115 [.long v0, .long v2] σ (fun v s => v = some (.long r) ∧ s = σ2) := by
  obtain ⟨d, rfl⟩ : ∃ e, d = e + 1 := ⟨d - 1, by omega⟩
  refine ⟨Nat.le_of_ble_eq_true rfl, ?_⟩
  show Rc none (Ev MT CT d) sg115 (0, [(0, .long v0), (2, .long v2)], [], σ) _
  unfold j_greatestDivisor_s at h
  have hd : 0 ≤ d := by omega
  refine Rc.blk (c := [_, _]) (s2 := (15, [(8, .int 0), (6, .long (labs v2)), (4, .long (labs v0)), (0, .long v0), (2, .long v2)], [], σ)) 0 rfl rfl (conj_c (Nat.le_of_ble_eq_true rfl) (conj_c (Nat.le_of_ble_eq_true rfl) (trivial))) ?_
  refine Rc.pick [2, 1, 0] (lv2 := [(4, .long (labs v0)), (6, .long (labs v2)), (8, .int 0)]) rfl ?_
  exact j_greatestDivisor_s_L15_ok hd fu _ _ _ _ _ _ h
theorem j_relation_62_113_b146_ok {d : Nat} (hd : 1 ≤ d) {k102 : Int32 → Int64 → Int32 → Sg → Option (Unit × Sg)} (hk102 : ∀ (v1 : Int32) (v3 : Int64) (v5 : Int32) (σ : Sg) (r : Unit) (σ2 : Sg), k102 v1 v3 v5 σ = some (r, σ2) → Rc none (Ev MT CT d) sg7 (102, [(0, .ref 62), (1, .int v1), (2, .ref 113), (3, .long v3), (5, .int v5)], [], σ) (fun v s => v = none ∧ s = σ2)) (v1 : Int32) (v3 : Int64) (v5 : Int32) (σ : Sg) (r : Unit) (σ2 : Sg) (h : j_relation_62_113_b146 k102 v1 v3 v5 σ = some (r, σ2)) : Rc none (Ev MT CT d) sg7 (146, [(0, .ref 62), (1, .int v1), (2, .ref 113), (3, .long v3), (5, .int v5)], [], σ) (fun v s => v = none ∧ s = σ2) := by
  unfold j_relation_62_113_b146 at h
  refine Rc.blk (c := []) (s2 := (102, [(5, .int (v5 + 1)), (0, .ref 62), (1, .int v1), (2, .ref 113), (3, .long v3)], [], σ)) 22 rfl rfl (trivial) ?_
  refine Rc.pick [1, 2, 3, 4, 0] (lv2 := [(0, .ref 62), (1, .int v1), (2, .ref 113), (3, .long v3), (5, .int (v5 + 1))]) rfl ?_
  exact hk102 _ _ _ _ _ _ h
theorem j_relation_62_113_H102_ok {d : Nat} (hd : 1 ≤ d) {k102 : Int32 → Int64 → Int32 → Sg → Option (Unit × Sg)} (hk102 : ∀ (v1 : Int32) (v3 : Int64) (v5 : Int32) (σ : Sg) (r : Unit) (σ2 : Sg), k102 v1 v3 v5 σ = some (r, σ2) → Rc none (Ev MT CT d) sg7 (102, [(0, .ref 62), (1, .int v1), (2, .ref 113), (3, .long v3), (5, .int v5)], [], σ) (fun v s => v = none ∧ s = σ2)) (v1 : Int32) (v3 : Int64) (v5 : Int32) (σ : Sg) (r : Unit) (σ2 : Sg) (h : j_relation_62_113_H102 k102 v1 v3 v5 σ = some (r, σ2)) : Rc none (Ev MT CT d) sg7 (102, [(0, .ref 62), (1, .int v1), (2, .ref 113), (3, .long v3), (5, .int v5)], [], σ) (fun v s => v = none ∧ s = σ2) := by
  unfold j_relation_62_113_H102 at h
  refine Rc.blk (c := [_]) (s2 := (if (σ.1 62 2) ≤ v5 then 152 else 111, [(0, .ref 62), (1, .int v1), (2, .ref 113), (3, .long v3), (5, .int v5)], [], σ)) 17 rfl rfl (conj_c (rfl) (trivial)) ?_
  by_cases c8 : (σ.1 62 2) ≤ v5
  · rw [if_pos c8] at h
    refine Rc.ifp c8 ?_
    obtain ⟨rfl, rfl⟩ := some_pair h
    exact Rc.ret 23 rfl rfl rfl trivial ⟨rfl, rfl⟩
  · rw [if_neg c8] at h
    refine Rc.ifn c8 ?_
    refine Rc.blk (c := [_]) (s2 := (117, [(0, .ref 62), (1, .int v1), (2, .ref 113), (3, .long v3), (5, .int v5)], [.int v5, .int (σ.1 62 4)], σ)) 18 rfl rfl (conj_c (rfl) (trivial)) ?_
    obtain ⟨r1, σ1, hc, h⟩ := bd_some h
    refine Rc.call (Ev.mono d) (v := some (.int r1)) (as := [.int (σ.1 62 4), .int v5]) (r := []) 19 rfl rfl rfl rfl (Nat.le_of_ble_eq_true rfl) (j_bit_s_ok (by omega) hc) ?_
    show Rc _ _ _ (120, [(0, .ref 62), (1, .int v1), (2, .ref 113), (3, .long v3), (5, .int v5)], [.int r1], σ1) _
    refine Rc.blk (c := []) (s2 := (if ¬ r1 = 1 then 146 else 124, [(0, .ref 62), (1, .int v1), (2, .ref 113), (3, .long v3), (5, .int v5)], [], σ1)) 20 rfl rfl (trivial) ?_
    by_cases c7 : r1 = 1
    · rw [if_pos c7] at h
      refine Rc.ifn (fun q => q c7) ?_
      obtain ⟨g2, h⟩ := gd_some h
      obtain ⟨g3, h⟩ := gd_some h
      obtain ⟨g4, h⟩ := gd_some h
      obtain ⟨g5, h⟩ := gd_some h
      obtain ⟨g6, h⟩ := gd_some h
      refine Rc.blk (c := [_, _, _, _, _, _, _]) (s2 := (146, [(0, .ref 62), (1, .int v1), (2, .ref 113), (3, .long v3), (5, .int v5)], [], si σ1 113 v5.toNatClampNeg (((-(σ1.2 (63 + 1 + (σ1.1 69 v5.toNatClampNeg).toNatClampNeg) v1.toNatClampNeg)) / v3).toInt32))) 21 rfl rfl (conj_c (rfl) (conj_c (rfl) (conj_c (⟨rfl, inB_in g2⟩) (conj_c (⟨Or.inr rfl, inB_in g3⟩) (conj_c (arB_in g4) (conj_c (neBL_ne g5) (conj_c (⟨rfl, inB_in g6⟩) (trivial)))))))) ?_
      exact j_relation_62_113_b146_ok hd hk102 _ _ _ _ _ _ h
    · rw [if_neg c7] at h
      refine Rc.ifp c7 ?_
      exact j_relation_62_113_b146_ok hd hk102 _ _ _ _ _ _ h
theorem j_relation_62_113_L102_ok {d : Nat} (hd : 1 ≤ d) : ∀ (n : Nat) (v1 : Int32) (v3 : Int64) (v5 : Int32) (σ : Sg) (r : Unit) (σ2 : Sg), j_relation_62_113_L102 n v1 v3 v5 σ = some (r, σ2) → Rc none (Ev MT CT d) sg7 (102, [(0, .ref 62), (1, .int v1), (2, .ref 113), (3, .long v3), (5, .int v5)], [], σ) (fun v s => v = none ∧ s = σ2)
  | 0, _, _, _, _, _, _, h => by cases h
  | n + 1, v1, v3, v5, σ, r, σ2, h => j_relation_62_113_H102_ok hd (j_relation_62_113_L102_ok hd n) v1 v3 v5 σ r σ2 h
theorem j_relation_62_113_b88_ok {d : Nat} (hd : 1 ≤ d) (v1 : Int32) (s0 : Int64) (σ : Sg) (r : Unit) (σ2 : Sg) (h : j_relation_62_113_b88 v1 s0 σ = some (r, σ2)) : Rc none (Ev MT CT d) sg7 (88, [(0, .ref 62), (1, .int v1), (2, .ref 113)], [.long s0], σ) (fun v s => v = none ∧ s = σ2) := by
  unfold j_relation_62_113_b88 at h
  obtain ⟨g1, h⟩ := gd_some h
  obtain ⟨g2, h⟩ := gd_some h
  refine Rc.blk (c := [_, _, _]) (s2 := (102, [(5, .int 0), (3, .long s0), (0, .ref 62), (1, .int v1), (2, .ref 113)], [], si σ 113 v1.toNatClampNeg (((σ.2 62 5) / s0).toInt32))) 16 rfl rfl (conj_c (rfl) (conj_c (neBL_ne g1) (conj_c (⟨rfl, inB_in g2⟩) (trivial)))) ?_
  refine Rc.pick [2, 3, 4, 1, 0] (lv2 := [(0, .ref 62), (1, .int v1), (2, .ref 113), (3, .long s0), (5, .int 0)]) rfl ?_
  exact j_relation_62_113_L102_ok hd fu _ _ _ _ _ _ h
theorem j_relation_62_113_b54_ok {d : Nat} (hd : 1 ≤ d) {k13 : Int32 → Int64 → Int32 → Sg → Option (Unit × Sg)} (hk13 : ∀ (v1 : Int32) (v3 : Int64) (v5 : Int32) (σ : Sg) (r : Unit) (σ2 : Sg), k13 v1 v3 v5 σ = some (r, σ2) → Rc none (Ev MT CT d) sg7 (13, [(0, .ref 62), (1, .int v1), (2, .ref 113), (3, .long v3), (5, .int v5)], [], σ) (fun v s => v = none ∧ s = σ2)) (v1 : Int32) (v3 : Int64) (v5 : Int32) (σ : Sg) (r : Unit) (σ2 : Sg) (h : j_relation_62_113_b54 k13 v1 v3 v5 σ = some (r, σ2)) : Rc none (Ev MT CT d) sg7 (54, [(0, .ref 62), (1, .int v1), (2, .ref 113), (3, .long v3), (5, .int v5)], [], σ) (fun v s => v = none ∧ s = σ2) := by
  unfold j_relation_62_113_b54 at h
  refine Rc.blk (c := []) (s2 := (13, [(5, .int (v5 + 1)), (0, .ref 62), (1, .int v1), (2, .ref 113), (3, .long v3)], [], σ)) 10 rfl rfl (trivial) ?_
  refine Rc.pick [1, 2, 3, 4, 0] (lv2 := [(0, .ref 62), (1, .int v1), (2, .ref 113), (3, .long v3), (5, .int (v5 + 1))]) rfl ?_
  exact hk13 _ _ _ _ _ _ h
theorem j_relation_62_113_H13_ok {d : Nat} (hd : 1 ≤ d) {k13 : Int32 → Int64 → Int32 → Sg → Option (Unit × Sg)} (hk13 : ∀ (v1 : Int32) (v3 : Int64) (v5 : Int32) (σ : Sg) (r : Unit) (σ2 : Sg), k13 v1 v3 v5 σ = some (r, σ2) → Rc none (Ev MT CT d) sg7 (13, [(0, .ref 62), (1, .int v1), (2, .ref 113), (3, .long v3), (5, .int v5)], [], σ) (fun v s => v = none ∧ s = σ2)) (v1 : Int32) (v3 : Int64) (v5 : Int32) (σ : Sg) (r : Unit) (σ2 : Sg) (h : j_relation_62_113_H13 k13 v1 v3 v5 σ = some (r, σ2)) : Rc none (Ev MT CT d) sg7 (13, [(0, .ref 62), (1, .int v1), (2, .ref 113), (3, .long v3), (5, .int v5)], [], σ) (fun v s => v = none ∧ s = σ2) := by
  unfold j_relation_62_113_H13 at h
  refine Rc.blk (c := [_]) (s2 := (if (σ.1 62 2) ≤ v5 then 60 else 22, [(0, .ref 62), (1, .int v1), (2, .ref 113), (3, .long v3), (5, .int v5)], [], σ)) 3 rfl rfl (conj_c (rfl) (trivial)) ?_
  by_cases c9 : (σ.1 62 2) ≤ v5
  · rw [if_pos c9] at h
    refine Rc.ifp c9 ?_
    refine Rc.blk (c := []) (s2 := (if ¬ (lg_cmp v3 0) = 0 then 67 else 66, [(0, .ref 62), (1, .int v1), (2, .ref 113), (3, .long v3), (5, .int v5)], [], σ)) 11 rfl rfl (trivial) ?_
    by_cases c2 : (lg_cmp v3 0) = 0
    · rw [if_pos c2] at h
      refine Rc.ifn (fun q => q c2) ?_
      obtain ⟨rfl, rfl⟩ := some_pair h
      exact Rc.ret 12 rfl rfl rfl trivial ⟨rfl, rfl⟩
    · rw [if_neg c2] at h
      refine Rc.ifp c2 ?_
      refine Rc.blk (c := [_]) (s2 := (if 0 ≤ (lg_cmp (σ.2 62 5) 0) then 84 else 76, [(0, .ref 62), (1, .int v1), (2, .ref 113), (3, .long v3), (5, .int v5)], [], σ)) 13 rfl rfl (conj_c (rfl) (trivial)) ?_
      by_cases c1 : 0 ≤ (lg_cmp (σ.2 62 5) 0)
      · rw [if_pos c1] at h
        refine Rc.ifp c1 ?_
        refine Rc.blk (c := [_]) (s2 := (88, [(0, .ref 62), (1, .int v1), (2, .ref 113), (3, .long v3), (5, .int v5)], [.long (labs v3)], σ)) 15 rfl rfl (conj_c (Nat.le_of_ble_eq_true rfl) (trivial)) ?_
        refine Rc.pick [0, 1, 2] (lv2 := [(0, .ref 62), (1, .int v1), (2, .ref 113)]) rfl ?_
        exact j_relation_62_113_b88_ok hd _ _ _ _ _ h
      · rw [if_neg c1] at h
        refine Rc.ifn c1 ?_
        refine Rc.blk (c := [_]) (s2 := (88, [(0, .ref 62), (1, .int v1), (2, .ref 113), (3, .long v3), (5, .int v5)], [.long (-(labs v3))], σ)) 14 rfl rfl (conj_c (Nat.le_of_ble_eq_true rfl) (trivial)) ?_
        refine Rc.pick [0, 1, 2] (lv2 := [(0, .ref 62), (1, .int v1), (2, .ref 113)]) rfl ?_
        exact j_relation_62_113_b88_ok hd _ _ _ _ _ h
  · rw [if_neg c9] at h
    refine Rc.ifn c9 ?_
    refine Rc.blk (c := [_]) (s2 := (28, [(0, .ref 62), (1, .int v1), (2, .ref 113), (3, .long v3), (5, .int v5)], [.int v5, .int (σ.1 62 4)], σ)) 4 rfl rfl (conj_c (rfl) (trivial)) ?_
    obtain ⟨r3, σ3, hc, h⟩ := bd_some h
    refine Rc.call (Ev.mono d) (v := some (.int r3)) (as := [.int (σ.1 62 4), .int v5]) (r := []) 5 rfl rfl rfl rfl (Nat.le_of_ble_eq_true rfl) (j_bit_s_ok (by omega) hc) ?_
    show Rc _ _ _ (31, [(0, .ref 62), (1, .int v1), (2, .ref 113), (3, .long v3), (5, .int v5)], [.int r3], σ3) _
    refine Rc.blk (c := []) (s2 := (if ¬ r3 = 1 then 54 else 35, [(0, .ref 62), (1, .int v1), (2, .ref 113), (3, .long v3), (5, .int v5)], [], σ3)) 6 rfl rfl (trivial) ?_
    by_cases c8 : r3 = 1
    · rw [if_pos c8] at h
      refine Rc.ifn (fun q => q c8) ?_
      obtain ⟨g4, h⟩ := gd_some h
      obtain ⟨g5, h⟩ := gd_some h
      obtain ⟨g6, h⟩ := gd_some h
      refine Rc.blk (c := [_, _, _, _, _]) (s2 := (50, [(0, .ref 62), (1, .int v1), (2, .ref 113), (3, .long v3), (5, .int v5)], [.long (σ3.2 (63 + 1 + (σ3.1 69 v5.toNatClampNeg).toNatClampNeg) v1.toNatClampNeg), .long v3], σ3)) 7 rfl rfl (conj_c (rfl) (conj_c (rfl) (conj_c (⟨rfl, inB_in g4⟩) (conj_c (⟨Or.inr rfl, inB_in g5⟩) (conj_c (arB_in g6) (trivial)))))) ?_
      obtain ⟨r7, σ7, hc, h⟩ := bd_some h
      refine Rc.call (Ev.mono d) (v := some (.long r7)) (as := [.long v3, .long (σ3.2 (63 + 1 + (σ3.1 69 v5.toNatClampNeg).toNatClampNeg) v1.toNatClampNeg)]) (r := []) 8 rfl rfl rfl rfl (Nat.le_of_ble_eq_true rfl) (j_greatestDivisor_s_ok (by omega) hc) ?_
      show Rc _ _ _ (53, [(0, .ref 62), (1, .int v1), (2, .ref 113), (3, .long v3), (5, .int v5)], [.long r7], σ7) _
      refine Rc.blk (c := []) (s2 := (54, [(3, .long r7), (0, .ref 62), (1, .int v1), (2, .ref 113), (5, .int v5)], [], σ7)) 9 rfl rfl (trivial) ?_
      refine Rc.pick [1, 2, 3, 0, 4] (lv2 := [(0, .ref 62), (1, .int v1), (2, .ref 113), (3, .long r7), (5, .int v5)]) rfl ?_
      exact j_relation_62_113_b54_ok hd hk13 _ _ _ _ _ _ h
    · rw [if_neg c8] at h
      refine Rc.ifp c8 ?_
      exact j_relation_62_113_b54_ok hd hk13 _ _ _ _ _ _ h
theorem j_relation_62_113_L13_ok {d : Nat} (hd : 1 ≤ d) : ∀ (n : Nat) (v1 : Int32) (v3 : Int64) (v5 : Int32) (σ : Sg) (r : Unit) (σ2 : Sg), j_relation_62_113_L13 n v1 v3 v5 σ = some (r, σ2) → Rc none (Ev MT CT d) sg7 (13, [(0, .ref 62), (1, .int v1), (2, .ref 113), (3, .long v3), (5, .int v5)], [], σ) (fun v s => v = none ∧ s = σ2)
  | 0, _, _, _, _, _, _, h => by cases h
  | n + 1, v1, v3, v5, σ, r, σ2, h => j_relation_62_113_H13_ok hd (j_relation_62_113_L13_ok hd n) v1 v3 v5 σ r σ2 h
theorem j_relation_62_113_ok {d : Nat} (hd : 2 ≤ d) {v1 : Int32} {σ : Sg} {r : Unit} {σ2 : Sg} (h : j_relation_62_113 v1 σ = some (r, σ2)) : Ev MT CT d 7 [.ref 62, .int v1, .ref 113] σ (fun v s => v = none ∧ s = σ2) := by
  obtain ⟨d, rfl⟩ : ∃ e, d = e + 1 := ⟨d - 1, by omega⟩
  refine ⟨Nat.le_of_ble_eq_true rfl, ?_⟩
  show Rc none (Ev MT CT d) sg7 (0, [(0, .ref 62), (1, .int v1), (2, .ref 113)], [], σ) _
  unfold j_relation_62_113 at h
  have hd : 1 ≤ d := by omega
  refine Rc.blk (c := []) (s2 := (2, [(0, .ref 62), (1, .int v1), (2, .ref 113)], [.int 0, .ref 113], σ)) 0 rfl rfl (trivial) ?_
  obtain ⟨r1, σ1, hc, h⟩ := bd_some h
  refine Rc.call (Ev.mono d) (v := none) (as := [.ref 113, .int 0]) (r := []) 1 rfl rfl rfl rfl (Nat.le_of_ble_eq_true rfl) (j_fillAII_113_ok (by omega) hc) ?_
  show Rc _ _ _ (5, [(0, .ref 62), (1, .int v1), (2, .ref 113)], [], σ1) _
  refine Rc.blk (c := [_]) (s2 := (13, [(5, .int 0), (3, .long (σ1.2 62 5)), (0, .ref 62), (1, .int v1), (2, .ref 113)], [], σ1)) 2 rfl rfl (conj_c (rfl) (trivial)) ?_
  refine Rc.pick [2, 3, 4, 1, 0] (lv2 := [(0, .ref 62), (1, .int v1), (2, .ref 113), (3, .long (σ1.2 62 5)), (5, .int 0)]) rfl ?_
  exact j_relation_62_113_L13_ok hd fu _ _ _ _ _ _ h
theorem j_looseAt_51_b39_ok {d : Nat} (hd : 1 ≤ d) {k10 : Int32 → Int32 → Int32 → Sg → Option (Int32 × Sg)} (hk10 : ∀ (v2 : Int32) (v3 : Int32) (v4 : Int32) (σ : Sg) (r : Int32) (σ2 : Sg), k10 v2 v3 v4 σ = some (r, σ2) → Rc none (Ev MT CT d) sg52 (10, [(0, .ref 51), (2, .int v2), (3, .int v3), (4, .int v4)], [], σ) (fun v s => v = some (.int r) ∧ s = σ2)) (v2 : Int32) (v3 : Int32) (v4 : Int32) (σ : Sg) (r : Int32) (σ2 : Sg) (h : j_looseAt_51_b39 k10 v2 v3 v4 σ = some (r, σ2)) : Rc none (Ev MT CT d) sg52 (39, [(0, .ref 51), (2, .int v2), (3, .int v3), (4, .int v4)], [], σ) (fun v s => v = some (.int r) ∧ s = σ2) := by
  unfold j_looseAt_51_b39 at h
  refine Rc.blk (c := []) (s2 := (10, [(4, .int (v4 + 1)), (0, .ref 51), (2, .int v2), (3, .int v3)], [], σ)) 11 rfl rfl (trivial) ?_
  refine Rc.pick [1, 2, 3, 0] (lv2 := [(0, .ref 51), (2, .int v2), (3, .int v3), (4, .int (v4 + 1))]) rfl ?_
  exact hk10 _ _ _ _ _ _ h
theorem j_looseAt_51_H10_ok {d : Nat} (hd : 1 ≤ d) {k10 : Int32 → Int32 → Int32 → Sg → Option (Int32 × Sg)} (hk10 : ∀ (v2 : Int32) (v3 : Int32) (v4 : Int32) (σ : Sg) (r : Int32) (σ2 : Sg), k10 v2 v3 v4 σ = some (r, σ2) → Rc none (Ev MT CT d) sg52 (10, [(0, .ref 51), (2, .int v2), (3, .int v3), (4, .int v4)], [], σ) (fun v s => v = some (.int r) ∧ s = σ2)) (v2 : Int32) (v3 : Int32) (v4 : Int32) (σ : Sg) (r : Int32) (σ2 : Sg) (h : j_looseAt_51_H10 k10 v2 v3 v4 σ = some (r, σ2)) : Rc none (Ev MT CT d) sg52 (10, [(0, .ref 51), (2, .int v2), (3, .int v3), (4, .int v4)], [], σ) (fun v s => v = some (.int r) ∧ s = σ2) := by
  unfold j_looseAt_51_H10 at h
  refine Rc.blk (c := [_]) (s2 := (if (σ.1 51 0) ≤ v4 then 45 else 19, [(0, .ref 51), (2, .int v2), (3, .int v3), (4, .int v4)], [], σ)) 3 rfl rfl (conj_c (rfl) (trivial)) ?_
  by_cases c4 : (σ.1 51 0) ≤ v4
  · rw [if_pos c4] at h
    refine Rc.ifp c4 ?_
    refine Rc.blk (c := []) (s2 := (46, [(0, .ref 51), (2, .int v2), (3, .int v3), (4, .int v4)], [.int 0], σ)) 12 rfl rfl (trivial) ?_
    obtain ⟨rfl, rfl⟩ := some_pair h
    exact Rc.ret 13 rfl rfl rfl trivial ⟨rfl, rfl⟩
  · rw [if_neg c4] at h
    refine Rc.ifn c4 ?_
    refine Rc.blk (c := []) (s2 := (22, [(0, .ref 51), (2, .int v2), (3, .int v3), (4, .int v4)], [.int v4, .int v2], σ)) 4 rfl rfl (trivial) ?_
    obtain ⟨r1, σ1, hc, h⟩ := bd_some h
    refine Rc.call (Ev.mono d) (v := some (.int r1)) (as := [.int v2, .int v4]) (r := []) 5 rfl rfl rfl rfl (Nat.le_of_ble_eq_true rfl) (j_bit_s_ok (by omega) hc) ?_
    show Rc _ _ _ (25, [(0, .ref 51), (2, .int v2), (3, .int v3), (4, .int v4)], [.int r1], σ1) _
    refine Rc.blk (c := []) (s2 := (if ¬ r1 = 1 then 39 else 29, [(0, .ref 51), (2, .int v2), (3, .int v3), (4, .int v4)], [], σ1)) 6 rfl rfl (trivial) ?_
    by_cases c3 : r1 = 1
    · rw [if_pos c3] at h
      refine Rc.ifn (fun q => q c3) ?_
      refine Rc.blk (c := []) (s2 := (if ¬ v3 = 0 then 36 else 33, [(0, .ref 51), (2, .int v2), (3, .int v3), (4, .int v4)], [], σ1)) 7 rfl rfl (trivial) ?_
      by_cases c2 : v3 = 0
      · rw [if_pos c2] at h
        refine Rc.ifn (fun q => q c2) ?_
        refine Rc.blk (c := []) (s2 := (35, [(0, .ref 51), (2, .int v2), (3, .int v3), (4, .int v4)], [.int v4], σ1)) 8 rfl rfl (trivial) ?_
        obtain ⟨rfl, rfl⟩ := some_pair h
        exact Rc.ret 9 rfl rfl rfl trivial ⟨rfl, rfl⟩
      · rw [if_neg c2] at h
        refine Rc.ifp c2 ?_
        refine Rc.blk (c := []) (s2 := (39, [(3, .int (v3 + (-1))), (0, .ref 51), (2, .int v2), (4, .int v4)], [], σ1)) 10 rfl rfl (trivial) ?_
        refine Rc.pick [1, 2, 0, 3] (lv2 := [(0, .ref 51), (2, .int v2), (3, .int (v3 + (-1))), (4, .int v4)]) rfl ?_
        exact j_looseAt_51_b39_ok hd hk10 _ _ _ _ _ _ h
    · rw [if_neg c3] at h
      refine Rc.ifp c3 ?_
      exact j_looseAt_51_b39_ok hd hk10 _ _ _ _ _ _ h
theorem j_looseAt_51_L10_ok {d : Nat} (hd : 1 ≤ d) : ∀ (n : Nat) (v2 : Int32) (v3 : Int32) (v4 : Int32) (σ : Sg) (r : Int32) (σ2 : Sg), j_looseAt_51_L10 n v2 v3 v4 σ = some (r, σ2) → Rc none (Ev MT CT d) sg52 (10, [(0, .ref 51), (2, .int v2), (3, .int v3), (4, .int v4)], [], σ) (fun v s => v = some (.int r) ∧ s = σ2)
  | 0, _, _, _, _, _, _, h => by cases h
  | n + 1, v2, v3, v4, σ, r, σ2, h => j_looseAt_51_H10_ok hd (j_looseAt_51_L10_ok hd n) v2 v3 v4 σ r σ2 h
theorem j_looseAt_51_ok {d : Nat} (hd : 2 ≤ d) {v1 : Int32} {σ : Sg} {r : Int32} {σ2 : Sg} (h : j_looseAt_51 v1 σ = some (r, σ2)) : Ev MT CT d 52 [.ref 51, .int v1] σ (fun v s => v = some (.int r) ∧ s = σ2) := by
  obtain ⟨d, rfl⟩ : ∃ e, d = e + 1 := ⟨d - 1, by omega⟩
  refine ⟨Nat.le_of_ble_eq_true rfl, ?_⟩
  show Rc none (Ev MT CT d) sg52 (0, [(0, .ref 51), (1, .int v1)], [], σ) _
  unfold j_looseAt_51 at h
  have hd : 1 ≤ d := by omega
  refine Rc.blk (c := []) (s2 := (1, [(0, .ref 51), (1, .int v1)], [.ref 51], σ)) 0 rfl rfl (trivial) ?_
  obtain ⟨r1, σ1, hc, h⟩ := bd_some h
  refine Rc.call (Ev.mono d) (v := some (.int r1)) (as := [.ref 51]) (r := []) 1 rfl rfl rfl rfl ⟨rfl, Nat.le_of_ble_eq_true rfl⟩ (j_looseSet_51_ok (by omega) hc) ?_
  show Rc _ _ _ (4, [(0, .ref 51), (1, .int v1)], [.int r1], σ1) _
  refine Rc.blk (c := []) (s2 := (10, [(4, .int 0), (3, .int v1), (2, .int r1), (0, .ref 51), (1, .int v1)], [], σ1)) 2 rfl rfl (trivial) ?_
  refine Rc.pick [3, 2, 1, 0] (lv2 := [(0, .ref 51), (2, .int r1), (3, .int v1), (4, .int 0)]) rfl ?_
  exact j_looseAt_51_L10_ok hd fu _ _ _ _ _ _ h
theorem j_isGroup_0_b31_ok {d : Nat} (hd : 0 ≤ d) (s0 : Int32) (σ : Sg) (r : Int32) (σ2 : Sg) (h : j_isGroup_0_b31 s0 σ = some (r, σ2)) : Rc none (Ev MT CT d) sg104 (31, [], [.int s0], σ) (fun v s => v = some (.int r) ∧ s = σ2) := by
  unfold j_isGroup_0_b31 at h
  obtain ⟨g, h⟩ := gd_some h
  obtain ⟨rfl, rfl⟩ := some_pair h
  exact Rc.ret 4 rfl rfl rfl (nbB_ok g) ⟨rfl, rfl⟩
theorem j_isGroup_0_b30_ok {d : Nat} (hd : 0 ≤ d) (σ : Sg) (r : Int32) (σ2 : Sg) (h : j_isGroup_0_b30 σ = some (r, σ2)) : Rc none (Ev MT CT d) sg104 (30, [], [], σ) (fun v s => v = some (.int r) ∧ s = σ2) := by
  unfold j_isGroup_0_b30 at h
  refine Rc.blk (c := []) (s2 := (31, [], [.int 0], σ)) 3 rfl rfl (trivial) ?_
  exact j_isGroup_0_b31_ok hd _ _ _ _ h
theorem j_isGroup_0_ok {d : Nat} (hd : 1 ≤ d) {v1 : Int32} {σ : Sg} {r : Int32} {σ2 : Sg} (h : j_isGroup_0 v1 σ = some (r, σ2)) : Ev MT CT d 104 [.ref 0, .int v1] σ (fun v s => v = some (.int r) ∧ s = σ2) := by
  obtain ⟨d, rfl⟩ : ∃ e, d = e + 1 := ⟨d - 1, by omega⟩
  refine ⟨Nat.le_of_ble_eq_true rfl, ?_⟩
  show Rc none (Ev MT CT d) sg104 (0, [(0, .ref 0), (1, .int v1)], [], σ) _
  unfold j_isGroup_0 at h
  have hd : 0 ≤ d := by omega
  refine Rc.blk (c := []) (s2 := (if v1 < 0 then 30 else 4, [(0, .ref 0), (1, .int v1)], [], σ)) 0 rfl rfl (trivial) ?_
  by_cases c2 : v1 < 0
  · rw [if_pos c2] at h
    refine Rc.ifp c2 ?_
    refine Rc.pick [] (lv2 := []) rfl ?_
    exact j_isGroup_0_b30_ok hd _ _ _ h
  · rw [if_neg c2] at h
    refine Rc.ifn c2 ?_
    refine Rc.blk (c := [_, _, _, _, _]) (s2 := (if ((σ.1 51 0) - (σ.1 62 3)) ≤ v1 then 30 else 26, [(0, .ref 0), (1, .int v1)], [], σ)) 1 rfl rfl (conj_c (rfl) (conj_c (rfl) (conj_c (rfl) (conj_c (rfl) (conj_c (rfl) (trivial)))))) ?_
    by_cases c1 : ((σ.1 51 0) - (σ.1 62 3)) ≤ v1
    · rw [if_pos c1] at h
      refine Rc.ifp c1 ?_
      refine Rc.pick [] (lv2 := []) rfl ?_
      exact j_isGroup_0_b30_ok hd _ _ _ h
    · rw [if_neg c1] at h
      refine Rc.ifn c1 ?_
      refine Rc.blk (c := []) (s2 := (31, [(0, .ref 0), (1, .int v1)], [.int 1], σ)) 2 rfl rfl (trivial) ?_
      refine Rc.pick [] (lv2 := []) rfl ?_
      exact j_isGroup_0_b31_ok hd _ _ _ _ h
theorem j_group_0_b16_ok {d : Nat} (hd : 2 ≤ d) (σ : Sg) (r : Int32) (σ2 : Sg) (h : j_group_0_b16 σ = some (r, σ2)) : Rc none (Ev MT CT d) sg64 (16, [(0, .ref 0)], [], σ) (fun v s => v = some (.int r) ∧ s = σ2) := by
  unfold j_group_0_b16 at h
  refine Rc.blk (c := []) (s2 := (18, [(0, .ref 0)], [.int (-1), .ref 0], σ)) 6 rfl rfl (trivial) ?_
  obtain ⟨r1, σ1, hc, h⟩ := bd_some h
  refine Rc.call (Ev.mono d) (v := some (.int r1)) (as := [.ref 0, .int (-1)]) (r := []) 7 rfl rfl rfl rfl ⟨rfl, Nat.le_of_ble_eq_true rfl⟩ (j_refusedFar_0_ok (by omega) hc) ?_
  show Rc _ _ _ (21, [(0, .ref 0)], [.int r1], σ1) _
  obtain ⟨rfl, rfl⟩ := some_pair h
  exact Rc.ret 8 rfl rfl rfl trivial ⟨rfl, rfl⟩
theorem j_group_0_ok {d : Nat} (hd : 3 ≤ d) {v1 : Int32} {v2 : Int32} {σ : Sg} {r : Int32} {σ2 : Sg} (h : j_group_0 v1 v2 σ = some (r, σ2)) : Ev MT CT d 64 [.ref 0, .int v1, .int v2] σ (fun v s => v = some (.int r) ∧ s = σ2) := by
  obtain ⟨d, rfl⟩ : ∃ e, d = e + 1 := ⟨d - 1, by omega⟩
  refine ⟨Nat.le_of_ble_eq_true rfl, ?_⟩
  show Rc none (Ev MT CT d) sg64 (0, [(0, .ref 0), (1, .int v1), (2, .int v2)], [], σ) _
  unfold j_group_0 at h
  have hd : 2 ≤ d := by omega
  refine Rc.blk (c := []) (s2 := (2, [(0, .ref 0), (1, .int v1), (2, .int v2)], [.int v1, .ref 0], σ)) 0 rfl rfl (trivial) ?_
  obtain ⟨r1, σ1, hc, h⟩ := bd_some h
  refine Rc.call (Ev.mono d) (v := some (.int r1)) (as := [.ref 0, .int v1]) (r := []) 1 rfl rfl rfl rfl ⟨rfl, Nat.le_of_ble_eq_true rfl⟩ (j_isGroup_0_ok (by omega) hc) ?_
  show Rc _ _ _ (5, [(0, .ref 0), (1, .int v1), (2, .int v2)], [.int r1], σ1) _
  refine Rc.blk (c := []) (s2 := (if r1 = 0 then 16 else 8, [(0, .ref 0), (1, .int v1), (2, .int v2)], [], σ1)) 2 rfl rfl (trivial) ?_
  by_cases c7 : r1 = 0
  · rw [if_pos c7] at h
    refine Rc.ifp c7 ?_
    refine Rc.pick [0] (lv2 := [(0, .ref 0)]) rfl ?_
    exact j_group_0_b16_ok hd _ _ _ h
  · rw [if_neg c7] at h
    refine Rc.ifn c7 ?_
    refine Rc.blk (c := []) (s2 := (10, [(0, .ref 0), (1, .int v1), (2, .int v2)], [.int v2, .ref 0], σ1)) 3 rfl rfl (trivial) ?_
    obtain ⟨r2, σ2, hc, h⟩ := bd_some h
    refine Rc.call (Ev.mono d) (v := some (.int r2)) (as := [.ref 0, .int v2]) (r := []) 4 rfl rfl rfl rfl ⟨rfl, Nat.le_of_ble_eq_true rfl⟩ (j_isQuantity_0_ok (by omega) hc) ?_
    show Rc _ _ _ (13, [(0, .ref 0), (1, .int v1), (2, .int v2)], [.int r2], σ2) _
    refine Rc.blk (c := []) (s2 := (if ¬ r2 = 0 then 22 else 16, [(0, .ref 0), (1, .int v1), (2, .int v2)], [], σ2)) 5 rfl rfl (trivial) ?_
    by_cases c6 : r2 = 0
    · rw [if_pos c6] at h
      refine Rc.ifn (fun q => q c6) ?_
      refine Rc.pick [0] (lv2 := [(0, .ref 0)]) rfl ?_
      exact j_group_0_b16_ok hd _ _ _ h
    · rw [if_neg c6] at h
      refine Rc.ifp c6 ?_
      refine Rc.blk (c := [_, _, _]) (s2 := (34, [(0, .ref 0), (1, .int v1), (2, .int v2)], [.int v1, .ref 51, .ref 62], σ2)) 9 rfl rfl (conj_c (rfl) (conj_c (rfl) (conj_c (rfl) (trivial)))) ?_
      obtain ⟨r3, σ3, hc, h⟩ := bd_some h
      refine Rc.call (Ev.mono d) (v := some (.int r3)) (as := [.ref 51, .int v1]) (r := [.ref 62]) 10 rfl rfl rfl rfl ⟨rfl, Nat.le_of_ble_eq_true rfl⟩ (j_looseAt_51_ok (by omega) hc) ?_
      show Rc _ _ _ (37, [(0, .ref 0), (1, .int v1), (2, .int v2)], [.int r3, .ref 62], σ3) _
      refine Rc.blk (c := [_]) (s2 := (41, [(0, .ref 0), (1, .int v1), (2, .int v2)], [.ref 113, .int r3, .ref 62], σ3)) 11 rfl rfl (conj_c (rfl) (trivial)) ?_
      obtain ⟨r4, σ4, hc, h⟩ := bd_some h
      refine Rc.call (Ev.mono d) (v := none) (as := [.ref 62, .int r3, .ref 113]) (r := []) 12 rfl rfl rfl rfl ⟨rfl, Nat.le_of_ble_eq_true rfl⟩ (j_relation_62_113_ok (by omega) hc) ?_
      show Rc _ _ _ (44, [(0, .ref 0), (1, .int v1), (2, .int v2)], [], σ4) _
      obtain ⟨g5, h⟩ := gd_some h
      refine Rc.blk (c := [_, _]) (s2 := (50, [(0, .ref 0), (1, .int v1), (2, .int v2)], [.int (σ4.1 113 v2.toNatClampNeg)], σ4)) 13 rfl rfl (conj_c (rfl) (conj_c (⟨rfl, inB_in g5⟩) (trivial))) ?_
      obtain ⟨rfl, rfl⟩ := some_pair h
      exact Rc.ret 14 rfl rfl rfl trivial ⟨rfl, rfl⟩
theorem j_sizeOfDimension_51_114_H15_ok {d : Nat} (hd : 0 ≤ d) {k4 : Int32 → Int32 → Sg → Option (Int32 × Sg)} {k15 : Int32 → Int32 → Int32 → Int32 → Sg → Option (Int32 × Sg)} (hk4 : ∀ (v2 : Int32) (v3 : Int32) (σ : Sg) (r : Int32) (σ2 : Sg), k4 v2 v3 σ = some (r, σ2) → Rc none (Ev MT CT d) sg55 (4, [(0, .ref 51), (1, .ref 114), (2, .int v2), (3, .int v3)], [], σ) (fun v s => v = some (.int r) ∧ s = σ2)) (hk15 : ∀ (v2 : Int32) (v3 : Int32) (v4 : Int32) (v5 : Int32) (σ : Sg) (r : Int32) (σ2 : Sg), k15 v2 v3 v4 v5 σ = some (r, σ2) → Rc none (Ev MT CT d) sg55 (15, [(0, .ref 51), (1, .ref 114), (2, .int v2), (3, .int v3), (4, .int v4), (5, .int v5)], [], σ) (fun v s => v = some (.int r) ∧ s = σ2)) (v2 : Int32) (v3 : Int32) (v4 : Int32) (v5 : Int32) (σ : Sg) (r : Int32) (σ2 : Sg) (h : j_sizeOfDimension_51_114_H15 k4 k15 v2 v3 v4 v5 σ = some (r, σ2)) : Rc none (Ev MT CT d) sg55 (15, [(0, .ref 51), (1, .ref 114), (2, .int v2), (3, .int v3), (4, .int v4), (5, .int v5)], [], σ) (fun v s => v = some (.int r) ∧ s = σ2) := by
  unfold j_sizeOfDimension_51_114_H15 at h
  refine Rc.blk (c := [_]) (s2 := (if (σ.1 51 0) ≤ v5 then 49 else 24, [(0, .ref 51), (1, .ref 114), (2, .int v2), (3, .int v3), (4, .int v4), (5, .int v5)], [], σ)) 3 rfl rfl (conj_c (rfl) (trivial)) ?_
  by_cases c4 : (σ.1 51 0) ≤ v5
  · rw [if_pos c4] at h
    refine Rc.ifp c4 ?_
    refine Rc.blk (c := [_]) (s2 := (4, [(3, .int (v3 + 1)), (2, .int (v2 + (iabs v4))), (0, .ref 51), (1, .ref 114), (4, .int v4), (5, .int v5)], [], σ)) 5 rfl rfl (conj_c (Nat.le_of_ble_eq_true rfl) (trivial)) ?_
    refine Rc.pick [2, 3, 1, 0] (lv2 := [(0, .ref 51), (1, .ref 114), (2, .int (v2 + (iabs v4))), (3, .int (v3 + 1))]) rfl ?_
    exact hk4 _ _ _ _ _ h
  · rw [if_neg c4] at h
    refine Rc.ifn c4 ?_
    obtain ⟨g1, h⟩ := gd_some h
    obtain ⟨g2, h⟩ := gd_some h
    obtain ⟨g3, h⟩ := gd_some h
    refine Rc.blk (c := [_, _, _, _]) (s2 := (15, [(5, .int (v5 + 1)), (4, .int (v4 + ((σ.1 114 v5.toNatClampNeg) * (σ.1 (52 + 1 + v5.toNatClampNeg) v3.toNatClampNeg)))), (0, .ref 51), (1, .ref 114), (2, .int v2), (3, .int v3)], [], σ)) 4 rfl rfl (conj_c (⟨rfl, inB_in g1⟩) (conj_c (rfl) (conj_c (⟨Or.inl rfl, inB_in g2⟩) (conj_c (arB_in g3) (trivial))))) ?_
    refine Rc.pick [2, 3, 4, 5, 1, 0] (lv2 := [(0, .ref 51), (1, .ref 114), (2, .int v2), (3, .int v3), (4, .int (v4 + ((σ.1 114 v5.toNatClampNeg) * (σ.1 (52 + 1 + v5.toNatClampNeg) v3.toNatClampNeg)))), (5, .int (v5 + 1))]) rfl ?_
    exact hk15 _ _ _ _ _ _ _ h
theorem j_sizeOfDimension_51_114_L15_ok {d : Nat} (hd : 0 ≤ d) {k4 : Int32 → Int32 → Sg → Option (Int32 × Sg)} (hk4 : ∀ (v2 : Int32) (v3 : Int32) (σ : Sg) (r : Int32) (σ2 : Sg), k4 v2 v3 σ = some (r, σ2) → Rc none (Ev MT CT d) sg55 (4, [(0, .ref 51), (1, .ref 114), (2, .int v2), (3, .int v3)], [], σ) (fun v s => v = some (.int r) ∧ s = σ2)) : ∀ (n : Nat) (v2 : Int32) (v3 : Int32) (v4 : Int32) (v5 : Int32) (σ : Sg) (r : Int32) (σ2 : Sg), j_sizeOfDimension_51_114_L15 k4 n v2 v3 v4 v5 σ = some (r, σ2) → Rc none (Ev MT CT d) sg55 (15, [(0, .ref 51), (1, .ref 114), (2, .int v2), (3, .int v3), (4, .int v4), (5, .int v5)], [], σ) (fun v s => v = some (.int r) ∧ s = σ2)
  | 0, _, _, _, _, _, _, _, h => by cases h
  | n + 1, v2, v3, v4, v5, σ, r, σ2, h => j_sizeOfDimension_51_114_H15_ok hd hk4 (j_sizeOfDimension_51_114_L15_ok hd hk4 n) v2 v3 v4 v5 σ r σ2 h
theorem j_sizeOfDimension_51_114_H4_ok {d : Nat} (hd : 0 ≤ d) {k4 : Int32 → Int32 → Sg → Option (Int32 × Sg)} (hk4 : ∀ (v2 : Int32) (v3 : Int32) (σ : Sg) (r : Int32) (σ2 : Sg), k4 v2 v3 σ = some (r, σ2) → Rc none (Ev MT CT d) sg55 (4, [(0, .ref 51), (1, .ref 114), (2, .int v2), (3, .int v3)], [], σ) (fun v s => v = some (.int r) ∧ s = σ2)) (v2 : Int32) (v3 : Int32) (σ : Sg) (r : Int32) (σ2 : Sg) (h : j_sizeOfDimension_51_114_H4 k4 v2 v3 σ = some (r, σ2)) : Rc none (Ev MT CT d) sg55 (4, [(0, .ref 51), (1, .ref 114), (2, .int v2), (3, .int v3)], [], σ) (fun v s => v = some (.int r) ∧ s = σ2) := by
  unfold j_sizeOfDimension_51_114_H4 at h
  refine Rc.blk (c := []) (s2 := (if 5 ≤ v3 then 63 else 9, [(0, .ref 51), (1, .ref 114), (2, .int v2), (3, .int v3)], [], σ)) 1 rfl rfl (trivial) ?_
  by_cases c1 : 5 ≤ v3
  · rw [if_pos c1] at h
    refine Rc.ifp c1 ?_
    refine Rc.blk (c := []) (s2 := (64, [(0, .ref 51), (1, .ref 114), (2, .int v2), (3, .int v3)], [.int v2], σ)) 6 rfl rfl (trivial) ?_
    obtain ⟨rfl, rfl⟩ := some_pair h
    exact Rc.ret 7 rfl rfl rfl trivial ⟨rfl, rfl⟩
  · rw [if_neg c1] at h
    refine Rc.ifn c1 ?_
    refine Rc.blk (c := []) (s2 := (15, [(5, .int 0), (4, .int 0), (0, .ref 51), (1, .ref 114), (2, .int v2), (3, .int v3)], [], σ)) 2 rfl rfl (trivial) ?_
    refine Rc.pick [2, 3, 4, 5, 1, 0] (lv2 := [(0, .ref 51), (1, .ref 114), (2, .int v2), (3, .int v3), (4, .int 0), (5, .int 0)]) rfl ?_
    exact j_sizeOfDimension_51_114_L15_ok hd hk4 fu _ _ _ _ _ _ _ h
theorem j_sizeOfDimension_51_114_L4_ok {d : Nat} (hd : 0 ≤ d) : ∀ (n : Nat) (v2 : Int32) (v3 : Int32) (σ : Sg) (r : Int32) (σ2 : Sg), j_sizeOfDimension_51_114_L4 n v2 v3 σ = some (r, σ2) → Rc none (Ev MT CT d) sg55 (4, [(0, .ref 51), (1, .ref 114), (2, .int v2), (3, .int v3)], [], σ) (fun v s => v = some (.int r) ∧ s = σ2)
  | 0, _, _, _, _, _, h => by cases h
  | n + 1, v2, v3, σ, r, σ2, h => j_sizeOfDimension_51_114_H4_ok hd (j_sizeOfDimension_51_114_L4_ok hd n) v2 v3 σ r σ2 h
theorem j_sizeOfDimension_51_114_ok {d : Nat} (hd : 1 ≤ d) {σ : Sg} {r : Int32} {σ2 : Sg} (h : j_sizeOfDimension_51_114 σ = some (r, σ2)) : Ev MT CT d 55 [.ref 51, .ref 114] σ (fun v s => v = some (.int r) ∧ s = σ2) := by
  obtain ⟨d, rfl⟩ : ∃ e, d = e + 1 := ⟨d - 1, by omega⟩
  refine ⟨Nat.le_of_ble_eq_true rfl, ?_⟩
  show Rc none (Ev MT CT d) sg55 (0, [(0, .ref 51), (1, .ref 114)], [], σ) _
  unfold j_sizeOfDimension_51_114 at h
  have hd : 0 ≤ d := by omega
  refine Rc.blk (c := []) (s2 := (4, [(3, .int 0), (2, .int 0), (0, .ref 51), (1, .ref 114)], [], σ)) 0 rfl rfl (trivial) ?_
  refine Rc.pick [2, 3, 1, 0] (lv2 := [(0, .ref 51), (1, .ref 114), (2, .int 0), (3, .int 0)]) rfl ?_
  exact j_sizeOfDimension_51_114_L4_ok hd fu _ _ _ _ _ h
theorem j_isPureProduct_51_114_b13_ok {d : Nat} (hd : 1 ≤ d) (s0 : Int32) (σ : Sg) (r : Int32) (σ2 : Sg) (h : j_isPureProduct_51_114_b13 s0 σ = some (r, σ2)) : Rc none (Ev MT CT d) sg54 (13, [], [.int s0], σ) (fun v s => v = some (.int r) ∧ s = σ2) := by
  unfold j_isPureProduct_51_114_b13 at h
  obtain ⟨g, h⟩ := gd_some h
  obtain ⟨rfl, rfl⟩ := some_pair h
  exact Rc.ret 5 rfl rfl rfl (nbB_ok g) ⟨rfl, rfl⟩
theorem j_isPureProduct_51_114_ok {d : Nat} (hd : 2 ≤ d) {σ : Sg} {r : Int32} {σ2 : Sg} (h : j_isPureProduct_51_114 σ = some (r, σ2)) : Ev MT CT d 54 [.ref 51, .ref 114] σ (fun v s => v = some (.int r) ∧ s = σ2) := by
  obtain ⟨d, rfl⟩ : ∃ e, d = e + 1 := ⟨d - 1, by omega⟩
  refine ⟨Nat.le_of_ble_eq_true rfl, ?_⟩
  show Rc none (Ev MT CT d) sg54 (0, [(0, .ref 51), (1, .ref 114)], [], σ) _
  unfold j_isPureProduct_51_114 at h
  have hd : 1 ≤ d := by omega
  refine Rc.blk (c := []) (s2 := (2, [(0, .ref 51), (1, .ref 114)], [.ref 114, .ref 51], σ)) 0 rfl rfl (trivial) ?_
  obtain ⟨r1, σ1, hc, h⟩ := bd_some h
  refine Rc.call (Ev.mono d) (v := some (.int r1)) (as := [.ref 51, .ref 114]) (r := []) 1 rfl rfl rfl rfl ⟨rfl, Nat.le_of_ble_eq_true rfl⟩ (j_sizeOfDimension_51_114_ok (by omega) hc) ?_
  show Rc _ _ _ (5, [(0, .ref 51), (1, .ref 114)], [.int r1], σ1) _
  refine Rc.blk (c := []) (s2 := (if ¬ r1 = 0 then 12 else 8, [(0, .ref 51), (1, .ref 114)], [], σ1)) 2 rfl rfl (trivial) ?_
  by_cases c2 : r1 = 0
  · rw [if_pos c2] at h
    refine Rc.ifn (fun q => q c2) ?_
    refine Rc.blk (c := []) (s2 := (13, [(0, .ref 51), (1, .ref 114)], [.int 1], σ1)) 3 rfl rfl (trivial) ?_
    refine Rc.pick [] (lv2 := []) rfl ?_
    exact j_isPureProduct_51_114_b13_ok hd _ _ _ _ h
  · rw [if_neg c2] at h
    refine Rc.ifp c2 ?_
    refine Rc.blk (c := []) (s2 := (13, [(0, .ref 51), (1, .ref 114)], [.int 0], σ1)) 4 rfl rfl (trivial) ?_
    refine Rc.pick [] (lv2 := []) rfl ?_
    exact j_isPureProduct_51_114_b13_ok hd _ _ _ _ h
theorem j_isList_s_b14_ok {d : Nat} (hd : 0 ≤ d) (s0 : Int32) (σ : Sg) (r : Int32) (σ2 : Sg) (h : j_isList_s_b14 s0 σ = some (r, σ2)) : Rc none (Ev MT CT d) sg107 (14, [], [.int s0], σ) (fun v s => v = some (.int r) ∧ s = σ2) := by
  unfold j_isList_s_b14 at h
  obtain ⟨g, h⟩ := gd_some h
  obtain ⟨rfl, rfl⟩ := some_pair h
  exact Rc.ret 4 rfl rfl rfl (nbB_ok g) ⟨rfl, rfl⟩
theorem j_isList_s_b13_ok {d : Nat} (hd : 0 ≤ d) (σ : Sg) (r : Int32) (σ2 : Sg) (h : j_isList_s_b13 σ = some (r, σ2)) : Rc none (Ev MT CT d) sg107 (13, [], [], σ) (fun v s => v = some (.int r) ∧ s = σ2) := by
  unfold j_isList_s_b13 at h
  refine Rc.blk (c := []) (s2 := (14, [], [.int 0], σ)) 3 rfl rfl (trivial) ?_
  exact j_isList_s_b14_ok hd _ _ _ _ h
theorem j_isList_s_ok {d : Nat} (hd : 1 ≤ d) {v0 : Int32} {σ : Sg} {r : Int32} {σ2 : Sg} (h : j_isList_s v0 σ = some (r, σ2)) : Ev MT CT d 107 [.int v0] σ (fun v s => v = some (.int r) ∧ s = σ2) := by
  obtain ⟨d, rfl⟩ : ∃ e, d = e + 1 := ⟨d - 1, by omega⟩
  refine ⟨Nat.le_of_ble_eq_true rfl, ?_⟩
  show Rc none (Ev MT CT d) sg107 (0, [(0, .int v0)], [], σ) _
  unfold j_isList_s at h
  have hd : 0 ≤ d := by omega
  refine Rc.blk (c := []) (s2 := (if v0 < 0 then 13 else 4, [(0, .int v0)], [], σ)) 0 rfl rfl (trivial) ?_
  by_cases c2 : v0 < 0
  · rw [if_pos c2] at h
    refine Rc.ifp c2 ?_
    refine Rc.pick [] (lv2 := []) rfl ?_
    exact j_isList_s_b13_ok hd _ _ _ h
  · rw [if_neg c2] at h
    refine Rc.ifn c2 ?_
    refine Rc.blk (c := []) (s2 := (if 3 ≤ v0 then 13 else 9, [(0, .int v0)], [], σ)) 1 rfl rfl (trivial) ?_
    by_cases c1 : 3 ≤ v0
    · rw [if_pos c1] at h
      refine Rc.ifp c1 ?_
      refine Rc.pick [] (lv2 := []) rfl ?_
      exact j_isList_s_b13_ok hd _ _ _ h
    · rw [if_neg c1] at h
      refine Rc.ifn c1 ?_
      refine Rc.blk (c := []) (s2 := (14, [(0, .int v0)], [.int 1], σ)) 2 rfl rfl (trivial) ?_
      refine Rc.pick [] (lv2 := []) rfl ?_
      exact j_isList_s_b14_ok hd _ _ _ _ h
theorem j_isMissing_0_b14_ok {d : Nat} (hd : 0 ≤ d) (s0 : Int32) (σ : Sg) (r : Int32) (σ2 : Sg) (h : j_isMissing_0_b14 s0 σ = some (r, σ2)) : Rc none (Ev MT CT d) sg108 (14, [], [.int s0], σ) (fun v s => v = some (.int r) ∧ s = σ2) := by
  unfold j_isMissing_0_b14 at h
  obtain ⟨g, h⟩ := gd_some h
  obtain ⟨rfl, rfl⟩ := some_pair h
  exact Rc.ret 3 rfl rfl rfl (nbB_ok g) ⟨rfl, rfl⟩
theorem j_isMissing_0_ok {d : Nat} (hd : 1 ≤ d) {v1 : Int32} {σ : Sg} {r : Int32} {σ2 : Sg} (h : j_isMissing_0 v1 σ = some (r, σ2)) : Ev MT CT d 108 [.ref 0, .int v1] σ (fun v s => v = some (.int r) ∧ s = σ2) := by
  obtain ⟨d, rfl⟩ : ∃ e, d = e + 1 := ⟨d - 1, by omega⟩
  refine ⟨Nat.le_of_ble_eq_true rfl, ?_⟩
  show Rc none (Ev MT CT d) sg108 (0, [(0, .ref 0), (1, .int v1)], [], σ) _
  unfold j_isMissing_0 at h
  have hd : 0 ≤ d := by omega
  obtain ⟨g1, h⟩ := gd_some h
  refine Rc.blk (c := [_, _]) (s2 := (if 0 ≤ (σ.1 112 v1.toNatClampNeg) then 13 else 9, [(0, .ref 0), (1, .int v1)], [], σ)) 0 rfl rfl (conj_c (rfl) (conj_c (⟨rfl, inB_in g1⟩) (trivial))) ?_
  by_cases c2 : 0 ≤ (σ.1 112 v1.toNatClampNeg)
  · rw [if_pos c2] at h
    refine Rc.ifp c2 ?_
    refine Rc.blk (c := []) (s2 := (14, [(0, .ref 0), (1, .int v1)], [.int 0], σ)) 2 rfl rfl (trivial) ?_
    refine Rc.pick [] (lv2 := []) rfl ?_
    exact j_isMissing_0_b14_ok hd _ _ _ _ h
  · rw [if_neg c2] at h
    refine Rc.ifn c2 ?_
    refine Rc.blk (c := []) (s2 := (14, [(0, .ref 0), (1, .int v1)], [.int 1], σ)) 1 rfl rfl (trivial) ?_
    refine Rc.pick [] (lv2 := []) rfl ?_
    exact j_isMissing_0_b14_ok hd _ _ _ _ h
theorem j_isPlace_0_b19_ok {d : Nat} (hd : 0 ≤ d) (s0 : Int32) (σ : Sg) (r : Int32) (σ2 : Sg) (h : j_isPlace_0_b19 s0 σ = some (r, σ2)) : Rc none (Ev MT CT d) sg109 (19, [], [.int s0], σ) (fun v s => v = some (.int r) ∧ s = σ2) := by
  unfold j_isPlace_0_b19 at h
  obtain ⟨g, h⟩ := gd_some h
  obtain ⟨rfl, rfl⟩ := some_pair h
  exact Rc.ret 4 rfl rfl rfl (nbB_ok g) ⟨rfl, rfl⟩
theorem j_isPlace_0_b18_ok {d : Nat} (hd : 0 ≤ d) (σ : Sg) (r : Int32) (σ2 : Sg) (h : j_isPlace_0_b18 σ = some (r, σ2)) : Rc none (Ev MT CT d) sg109 (18, [], [], σ) (fun v s => v = some (.int r) ∧ s = σ2) := by
  unfold j_isPlace_0_b18 at h
  refine Rc.blk (c := []) (s2 := (19, [], [.int 0], σ)) 3 rfl rfl (trivial) ?_
  exact j_isPlace_0_b19_ok hd _ _ _ _ h
theorem j_isPlace_0_ok {d : Nat} (hd : 1 ≤ d) {v1 : Int32} {v2 : Int32} {σ : Sg} {r : Int32} {σ2 : Sg} (h : j_isPlace_0 v1 v2 σ = some (r, σ2)) : Ev MT CT d 109 [.ref 0, .int v1, .int v2] σ (fun v s => v = some (.int r) ∧ s = σ2) := by
  obtain ⟨d, rfl⟩ : ∃ e, d = e + 1 := ⟨d - 1, by omega⟩
  refine ⟨Nat.le_of_ble_eq_true rfl, ?_⟩
  show Rc none (Ev MT CT d) sg109 (0, [(0, .ref 0), (1, .int v1), (2, .int v2)], [], σ) _
  unfold j_isPlace_0 at h
  have hd : 0 ≤ d := by omega
  refine Rc.blk (c := []) (s2 := (if v2 < 0 then 18 else 4, [(0, .ref 0), (1, .int v1), (2, .int v2)], [], σ)) 0 rfl rfl (trivial) ?_
  by_cases c3 : v2 < 0
  · rw [if_pos c3] at h
    refine Rc.ifp c3 ?_
    refine Rc.pick [] (lv2 := []) rfl ?_
    exact j_isPlace_0_b18_ok hd _ _ _ h
  · rw [if_neg c3] at h
    refine Rc.ifn c3 ?_
    obtain ⟨g1, h⟩ := gd_some h
    refine Rc.blk (c := [_, _]) (s2 := (if (σ.1 112 v1.toNatClampNeg) ≤ v2 then 18 else 14, [(0, .ref 0), (1, .int v1), (2, .int v2)], [], σ)) 1 rfl rfl (conj_c (rfl) (conj_c (⟨rfl, inB_in g1⟩) (trivial))) ?_
    by_cases c2 : (σ.1 112 v1.toNatClampNeg) ≤ v2
    · rw [if_pos c2] at h
      refine Rc.ifp c2 ?_
      refine Rc.pick [] (lv2 := []) rfl ?_
      exact j_isPlace_0_b18_ok hd _ _ _ h
    · rw [if_neg c2] at h
      refine Rc.ifn c2 ?_
      refine Rc.blk (c := []) (s2 := (19, [(0, .ref 0), (1, .int v1), (2, .int v2)], [.int 1], σ)) 2 rfl rfl (trivial) ?_
      refine Rc.pick [] (lv2 := []) rfl ?_
      exact j_isPlace_0_b19_ok hd _ _ _ _ h
theorem j_takeNumbers_0_114_b54_ok {d : Nat} (hd : 1 ≤ d) (σ : Sg) (r : Int32) (σ2 : Sg) (h : j_takeNumbers_0_114_b54 σ = some (r, σ2)) : Rc none (Ev MT CT d) sg110 (54, [], [], σ) (fun v s => v = some (.int r) ∧ s = σ2) := by
  unfold j_takeNumbers_0_114_b54 at h
  refine Rc.blk (c := []) (s2 := (55, [], [.int 0], σ)) 9 rfl rfl (trivial) ?_
  obtain ⟨rfl, rfl⟩ := some_pair h
  exact Rc.ret 10 rfl rfl rfl (Or.inl rfl) ⟨rfl, rfl⟩
theorem j_takeNumbers_0_114_b35_ok {d : Nat} (hd : 1 ≤ d) {k3 : Int32 → Int32 → Int32 → Sg → Option (Int32 × Sg)} (hk3 : ∀ (v1 : Int32) (v2 : Int32) (v4 : Int32) (σ : Sg) (r : Int32) (σ2 : Sg), k3 v1 v2 v4 σ = some (r, σ2) → Rc none (Ev MT CT d) sg110 (3, [(0, .ref 0), (1, .int v1), (2, .int v2), (3, .ref 114), (4, .int v4)], [], σ) (fun v s => v = some (.int r) ∧ s = σ2)) (v1 : Int32) (v2 : Int32) (v4 : Int32) (s1 : Int32) (s2 : Int32) (σ : Sg) (r : Int32) (σ2 : Sg) (h : j_takeNumbers_0_114_b35 k3 v1 v2 v4 s1 s2 σ = some (r, σ2)) : Rc none (Ev MT CT d) sg110 (35, [(0, .ref 0), (1, .int v1), (2, .int v2), (3, .ref 114), (4, .int v4)], [.int s2, .int s1, .ref 114], σ) (fun v s => v = some (.int r) ∧ s = σ2) := by
  unfold j_takeNumbers_0_114_b35 at h
  obtain ⟨g1, h⟩ := gd_some h
  obtain ⟨g2, h⟩ := gd_some h
  refine Rc.blk (c := [_, _]) (s2 := (if ((si σ 114 s1.toNatClampNeg s2).1 114 v4.toNatClampNeg) < (-99) then 54 else 45, [(0, .ref 0), (1, .int v1), (2, .int v2), (3, .ref 114), (4, .int v4)], [], si σ 114 s1.toNatClampNeg s2)) 7 rfl rfl (conj_c (⟨rfl, inB_in g1⟩) (conj_c (⟨rfl, inB_in g2⟩) (trivial))) ?_
  by_cases c5 : ((si σ 114 s1.toNatClampNeg s2).1 114 v4.toNatClampNeg) < (-99)
  · rw [if_pos c5] at h
    refine Rc.ifp c5 ?_
    refine Rc.pick [] (lv2 := []) rfl ?_
    exact j_takeNumbers_0_114_b54_ok hd _ _ _ h
  · rw [if_neg c5] at h
    refine Rc.ifn c5 ?_
    obtain ⟨g3, h⟩ := gd_some h
    refine Rc.blk (c := [_]) (s2 := (if ((si σ 114 s1.toNatClampNeg s2).1 114 v4.toNatClampNeg) ≤ 99 then 56 else 54, [(0, .ref 0), (1, .int v1), (2, .int v2), (3, .ref 114), (4, .int v4)], [], si σ 114 s1.toNatClampNeg s2)) 8 rfl rfl (conj_c (⟨rfl, inB_in g3⟩) (trivial)) ?_
    by_cases c4 : ((si σ 114 s1.toNatClampNeg s2).1 114 v4.toNatClampNeg) ≤ 99
    · rw [if_pos c4] at h
      refine Rc.ifp c4 ?_
      refine Rc.blk (c := []) (s2 := (3, [(4, .int (v4 + 1)), (0, .ref 0), (1, .int v1), (2, .int v2), (3, .ref 114)], [], si σ 114 s1.toNatClampNeg s2)) 11 rfl rfl (trivial) ?_
      refine Rc.pick [1, 2, 3, 4, 0] (lv2 := [(0, .ref 0), (1, .int v1), (2, .int v2), (3, .ref 114), (4, .int (v4 + 1))]) rfl ?_
      exact hk3 _ _ _ _ _ _ h
    · rw [if_neg c4] at h
      refine Rc.ifn c4 ?_
      refine Rc.pick [] (lv2 := []) rfl ?_
      exact j_takeNumbers_0_114_b54_ok hd _ _ _ h
theorem j_takeNumbers_0_114_H3_ok {d : Nat} (hd : 1 ≤ d) {k3 : Int32 → Int32 → Int32 → Sg → Option (Int32 × Sg)} (hk3 : ∀ (v1 : Int32) (v2 : Int32) (v4 : Int32) (σ : Sg) (r : Int32) (σ2 : Sg), k3 v1 v2 v4 σ = some (r, σ2) → Rc none (Ev MT CT d) sg110 (3, [(0, .ref 0), (1, .int v1), (2, .int v2), (3, .ref 114), (4, .int v4)], [], σ) (fun v s => v = some (.int r) ∧ s = σ2)) (v1 : Int32) (v2 : Int32) (v4 : Int32) (σ : Sg) (r : Int32) (σ2 : Sg) (h : j_takeNumbers_0_114_H3 k3 v1 v2 v4 σ = some (r, σ2)) : Rc none (Ev MT CT d) sg110 (3, [(0, .ref 0), (1, .int v1), (2, .int v2), (3, .ref 114), (4, .int v4)], [], σ) (fun v s => v = some (.int r) ∧ s = σ2) := by
  unfold j_takeNumbers_0_114_H3 at h
  refine Rc.blk (c := []) (s2 := (if v2 ≤ v4 then 62 else 9, [(0, .ref 0), (1, .int v1), (2, .int v2), (3, .ref 114), (4, .int v4)], [], σ)) 1 rfl rfl (trivial) ?_
  by_cases c5 : v2 ≤ v4
  · rw [if_pos c5] at h
    refine Rc.ifp c5 ?_
    refine Rc.blk (c := []) (s2 := (63, [(0, .ref 0), (1, .int v1), (2, .int v2), (3, .ref 114), (4, .int v4)], [.int 1], σ)) 12 rfl rfl (trivial) ?_
    obtain ⟨rfl, rfl⟩ := some_pair h
    exact Rc.ret 13 rfl rfl rfl (Or.inr rfl) ⟨rfl, rfl⟩
  · rw [if_neg c5] at h
    refine Rc.ifn c5 ?_
    refine Rc.blk (c := []) (s2 := (16, [(0, .ref 0), (1, .int v1), (2, .int v2), (3, .ref 114), (4, .int v4)], [.int v4, .int v1, .ref 0, .int v4, .ref 114], σ)) 2 rfl rfl (trivial) ?_
    obtain ⟨r1, σ1, hc, h⟩ := bd_some h
    refine Rc.call (Ev.mono d) (v := some (.int r1)) (as := [.ref 0, .int v1, .int v4]) (r := [.int v4, .ref 114]) 3 rfl rfl rfl rfl ⟨rfl, Nat.le_of_ble_eq_true rfl⟩ (j_isPlace_0_ok (by omega) hc) ?_
    show Rc _ _ _ (19, [(0, .ref 0), (1, .int v1), (2, .int v2), (3, .ref 114), (4, .int v4)], [.int r1, .int v4, .ref 114], σ1) _
    refine Rc.blk (c := []) (s2 := (if r1 = 0 then 34 else 22, [(0, .ref 0), (1, .int v1), (2, .int v2), (3, .ref 114), (4, .int v4)], [.int v4, .ref 114], σ1)) 4 rfl rfl (trivial) ?_
    by_cases c4 : r1 = 0
    · rw [if_pos c4] at h
      refine Rc.ifp c4 ?_
      refine Rc.blk (c := []) (s2 := (35, [(0, .ref 0), (1, .int v1), (2, .int v2), (3, .ref 114), (4, .int v4)], [.int 0, .int v4, .ref 114], σ1)) 6 rfl rfl (trivial) ?_
      exact j_takeNumbers_0_114_b35_ok hd hk3 _ _ _ _ _ _ _ _ h
    · rw [if_neg c4] at h
      refine Rc.ifn c4 ?_
      obtain ⟨g2, h⟩ := gd_some h
      obtain ⟨g3, h⟩ := gd_some h
      refine Rc.blk (c := [_, _, _]) (s2 := (35, [(0, .ref 0), (1, .int v1), (2, .int v2), (3, .ref 114), (4, .int v4)], [.int (σ1.1 (108 + 1 + v1.toNatClampNeg) v4.toNatClampNeg), .int v4, .ref 114], σ1)) 5 rfl rfl (conj_c (rfl) (conj_c (⟨Or.inl rfl, inB_in g2⟩) (conj_c (arB_in g3) (trivial)))) ?_
      exact j_takeNumbers_0_114_b35_ok hd hk3 _ _ _ _ _ _ _ _ h
theorem j_takeNumbers_0_114_L3_ok {d : Nat} (hd : 1 ≤ d) : ∀ (n : Nat) (v1 : Int32) (v2 : Int32) (v4 : Int32) (σ : Sg) (r : Int32) (σ2 : Sg), j_takeNumbers_0_114_L3 n v1 v2 v4 σ = some (r, σ2) → Rc none (Ev MT CT d) sg110 (3, [(0, .ref 0), (1, .int v1), (2, .int v2), (3, .ref 114), (4, .int v4)], [], σ) (fun v s => v = some (.int r) ∧ s = σ2)
  | 0, _, _, _, _, _, _, h => by cases h
  | n + 1, v1, v2, v4, σ, r, σ2, h => j_takeNumbers_0_114_H3_ok hd (j_takeNumbers_0_114_L3_ok hd n) v1 v2 v4 σ r σ2 h
theorem j_takeNumbers_0_114_ok {d : Nat} (hd : 2 ≤ d) {v1 : Int32} {v2 : Int32} {σ : Sg} {r : Int32} {σ2 : Sg} (h : j_takeNumbers_0_114 v1 v2 σ = some (r, σ2)) : Ev MT CT d 110 [.ref 0, .int v1, .int v2, .ref 114] σ (fun v s => v = some (.int r) ∧ s = σ2) := by
  obtain ⟨d, rfl⟩ : ∃ e, d = e + 1 := ⟨d - 1, by omega⟩
  refine ⟨Nat.le_of_ble_eq_true rfl, ?_⟩
  show Rc none (Ev MT CT d) sg110 (0, [(0, .ref 0), (1, .int v1), (2, .int v2), (3, .ref 114)], [], σ) _
  unfold j_takeNumbers_0_114 at h
  have hd : 1 ≤ d := by omega
  refine Rc.blk (c := []) (s2 := (3, [(4, .int 0), (0, .ref 0), (1, .int v1), (2, .int v2), (3, .ref 114)], [], σ)) 0 rfl rfl (trivial) ?_
  refine Rc.pick [1, 2, 3, 4, 0] (lv2 := [(0, .ref 0), (1, .int v1), (2, .int v2), (3, .ref 114), (4, .int 0)]) rfl ?_
  exact j_takeNumbers_0_114_L3_ok hd fu _ _ _ _ _ _ h
theorem j_pure_0_b69_ok {d : Nat} (hd : 2 ≤ d) (s0 : Int32) (σ : Sg) (r : Int32) (σ2 : Sg) (h : j_pure_0_b69 s0 σ = some (r, σ2)) : Rc none (Ev MT CT d) sg65 (69, [], [.int s0], σ) (fun v s => v = some (.int r) ∧ s = σ2) := by
  unfold j_pure_0_b69 at h
  obtain ⟨rfl, rfl⟩ := some_pair h
  exact Rc.ret 22 rfl rfl rfl trivial ⟨rfl, rfl⟩
theorem j_pure_0_ok {d : Nat} (hd : 3 ≤ d) {v1 : Int32} {σ : Sg} {r : Int32} {σ2 : Sg} (h : j_pure_0 v1 σ = some (r, σ2)) : Ev MT CT d 65 [.ref 0, .int v1] σ (fun v s => v = some (.int r) ∧ s = σ2) := by
  obtain ⟨d, rfl⟩ : ∃ e, d = e + 1 := ⟨d - 1, by omega⟩
  refine ⟨Nat.le_of_ble_eq_true rfl, ?_⟩
  show Rc none (Ev MT CT d) sg65 (0, [(0, .ref 0), (1, .int v1)], [], σ) _
  unfold j_pure_0 at h
  have hd : 2 ≤ d := by omega
  refine Rc.blk (c := []) (s2 := (1, [(0, .ref 0), (1, .int v1)], [.int v1], σ)) 0 rfl rfl (trivial) ?_
  obtain ⟨r1, σ1, hc, h⟩ := bd_some h
  refine Rc.call (Ev.mono d) (v := some (.int r1)) (as := [.int v1]) (r := []) 1 rfl rfl rfl rfl (Nat.le_of_ble_eq_true rfl) (j_isList_s_ok (by omega) hc) ?_
  show Rc _ _ _ (4, [(0, .ref 0), (1, .int v1)], [.int r1], σ1) _
  refine Rc.blk (c := []) (s2 := (if ¬ r1 = 0 then 13 else 7, [(0, .ref 0), (1, .int v1)], [], σ1)) 2 rfl rfl (trivial) ?_
  by_cases c10 : r1 = 0
  · rw [if_pos c10] at h
    refine Rc.ifn (fun q => q c10) ?_
    refine Rc.blk (c := []) (s2 := (9, [(0, .ref 0), (1, .int v1)], [.int (-1), .ref 0], σ1)) 3 rfl rfl (trivial) ?_
    obtain ⟨r9, σ9, hc, h⟩ := bd_some h
    refine Rc.call (Ev.mono d) (v := some (.int r9)) (as := [.ref 0, .int (-1)]) (r := []) 4 rfl rfl rfl rfl ⟨rfl, Nat.le_of_ble_eq_true rfl⟩ (j_refused_0_ok (by omega) hc) ?_
    show Rc _ _ _ (12, [(0, .ref 0), (1, .int v1)], [.int r9], σ9) _
    obtain ⟨rfl, rfl⟩ := some_pair h
    exact Rc.ret 5 rfl rfl rfl trivial ⟨rfl, rfl⟩
  · rw [if_neg c10] at h
    refine Rc.ifp c10 ?_
    refine Rc.blk (c := []) (s2 := (15, [(0, .ref 0), (1, .int v1)], [.int v1, .ref 0], σ1)) 6 rfl rfl (trivial) ?_
    obtain ⟨r2, σ2, hc, h⟩ := bd_some h
    refine Rc.call (Ev.mono d) (v := some (.int r2)) (as := [.ref 0, .int v1]) (r := []) 7 rfl rfl rfl rfl ⟨rfl, Nat.le_of_ble_eq_true rfl⟩ (j_isMissing_0_ok (by omega) hc) ?_
    show Rc _ _ _ (18, [(0, .ref 0), (1, .int v1)], [.int r2], σ2) _
    refine Rc.blk (c := []) (s2 := (if r2 = 0 then 24 else 21, [(0, .ref 0), (1, .int v1)], [], σ2)) 8 rfl rfl (trivial) ?_
    by_cases c8 : r2 = 0
    · rw [if_pos c8] at h
      refine Rc.ifp c8 ?_
      refine Rc.blk (c := [_, _, _]) (s2 := (37, [(0, .ref 0), (1, .int v1)], [.ref 114, .int (σ2.1 1 0), .int v1, .ref 0], σ2)) 11 rfl rfl (conj_c (rfl) (conj_c (rfl) (conj_c (rfl) (trivial)))) ?_
      obtain ⟨r3, σ3, hc, h⟩ := bd_some h
      refine Rc.call (Ev.mono d) (v := some (.int r3)) (as := [.ref 0, .int v1, .int (σ2.1 1 0), .ref 114]) (r := []) 12 rfl rfl rfl rfl ⟨rfl, Nat.le_of_ble_eq_true rfl⟩ (j_takeNumbers_0_114_ok (by omega) hc) ?_
      show Rc _ _ _ (40, [(0, .ref 0), (1, .int v1)], [.int r3], σ3) _
      refine Rc.blk (c := []) (s2 := (if ¬ r3 = 0 then 50 else 43, [(0, .ref 0), (1, .int v1)], [], σ3)) 13 rfl rfl (trivial) ?_
      by_cases c7 : r3 = 0
      · rw [if_pos c7] at h
        refine Rc.ifn (fun q => q c7) ?_
        refine Rc.blk (c := []) (s2 := (46, [(0, .ref 0), (1, .int v1)], [.int (-3), .ref 0], σ3)) 14 rfl rfl (trivial) ?_
        obtain ⟨r6, σ6, hc, h⟩ := bd_some h
        refine Rc.call (Ev.mono d) (v := some (.int r6)) (as := [.ref 0, .int (-3)]) (r := []) 15 rfl rfl rfl rfl ⟨rfl, Nat.le_of_ble_eq_true rfl⟩ (j_refused_0_ok (by omega) hc) ?_
        show Rc _ _ _ (49, [(0, .ref 0), (1, .int v1)], [.int r6], σ6) _
        obtain ⟨rfl, rfl⟩ := some_pair h
        exact Rc.ret 16 rfl rfl rfl trivial ⟨rfl, rfl⟩
      · rw [if_neg c7] at h
        refine Rc.ifp c7 ?_
        refine Rc.blk (c := [_, _]) (s2 := (58, [(0, .ref 0), (1, .int v1)], [.ref 114, .ref 51], σ3)) 17 rfl rfl (conj_c (rfl) (conj_c (rfl) (trivial))) ?_
        obtain ⟨r4, σ4, hc, h⟩ := bd_some h
        refine Rc.call (Ev.mono d) (v := some (.int r4)) (as := [.ref 51, .ref 114]) (r := []) 18 rfl rfl rfl rfl ⟨rfl, Nat.le_of_ble_eq_true rfl⟩ (j_isPureProduct_51_114_ok (by omega) hc) ?_
        show Rc _ _ _ (61, [(0, .ref 0), (1, .int v1)], [.int r4], σ4) _
        refine Rc.blk (c := []) (s2 := (if r4 = 0 then 68 else 64, [(0, .ref 0), (1, .int v1)], [], σ4)) 19 rfl rfl (trivial) ?_
        by_cases c5 : r4 = 0
        · rw [if_pos c5] at h
          refine Rc.ifp c5 ?_
          refine Rc.blk (c := []) (s2 := (69, [(0, .ref 0), (1, .int v1)], [.int 0], σ4)) 21 rfl rfl (trivial) ?_
          refine Rc.pick [] (lv2 := []) rfl ?_
          exact j_pure_0_b69_ok hd _ _ _ _ h
        · rw [if_neg c5] at h
          refine Rc.ifn c5 ?_
          refine Rc.blk (c := []) (s2 := (69, [(0, .ref 0), (1, .int v1)], [.int 1], σ4)) 20 rfl rfl (trivial) ?_
          refine Rc.pick [] (lv2 := []) rfl ?_
          exact j_pure_0_b69_ok hd _ _ _ _ h
    · rw [if_neg c8] at h
      refine Rc.ifn c8 ?_
      refine Rc.blk (c := []) (s2 := (23, [(0, .ref 0), (1, .int v1)], [.int (-11)], σ2)) 9 rfl rfl (trivial) ?_
      obtain ⟨rfl, rfl⟩ := some_pair h
      exact Rc.ret 10 rfl rfl rfl trivial ⟨rfl, rfl⟩
theorem j_isPart_s_b14_ok {d : Nat} (hd : 0 ≤ d) (s0 : Int32) (σ : Sg) (r : Int32) (σ2 : Sg) (h : j_isPart_s_b14 s0 σ = some (r, σ2)) : Rc none (Ev MT CT d) sg102 (14, [], [.int s0], σ) (fun v s => v = some (.int r) ∧ s = σ2) := by
  unfold j_isPart_s_b14 at h
  obtain ⟨g, h⟩ := gd_some h
  obtain ⟨rfl, rfl⟩ := some_pair h
  exact Rc.ret 4 rfl rfl rfl (nbB_ok g) ⟨rfl, rfl⟩
theorem j_isPart_s_b9_ok {d : Nat} (hd : 0 ≤ d) (σ : Sg) (r : Int32) (σ2 : Sg) (h : j_isPart_s_b9 σ = some (r, σ2)) : Rc none (Ev MT CT d) sg102 (9, [], [], σ) (fun v s => v = some (.int r) ∧ s = σ2) := by
  unfold j_isPart_s_b9 at h
  refine Rc.blk (c := []) (s2 := (14, [], [.int 1], σ)) 2 rfl rfl (trivial) ?_
  exact j_isPart_s_b14_ok hd _ _ _ _ h
theorem j_isPart_s_ok {d : Nat} (hd : 1 ≤ d) {v0 : Int32} {σ : Sg} {r : Int32} {σ2 : Sg} (h : j_isPart_s v0 σ = some (r, σ2)) : Ev MT CT d 102 [.int v0] σ (fun v s => v = some (.int r) ∧ s = σ2) := by
  obtain ⟨d, rfl⟩ : ∃ e, d = e + 1 := ⟨d - 1, by omega⟩
  refine ⟨Nat.le_of_ble_eq_true rfl, ?_⟩
  show Rc none (Ev MT CT d) sg102 (0, [(0, .int v0)], [], σ) _
  unfold j_isPart_s at h
  have hd : 0 ≤ d := by omega
  refine Rc.blk (c := []) (s2 := (if v0 = 0 then 9 else 4, [(0, .int v0)], [], σ)) 0 rfl rfl (trivial) ?_
  by_cases c2 : v0 = 0
  · rw [if_pos c2] at h
    refine Rc.ifp c2 ?_
    refine Rc.pick [] (lv2 := []) rfl ?_
    exact j_isPart_s_b9_ok hd _ _ _ h
  · rw [if_neg c2] at h
    refine Rc.ifn c2 ?_
    refine Rc.blk (c := []) (s2 := (if ¬ v0 = 1 then 13 else 9, [(0, .int v0)], [], σ)) 1 rfl rfl (trivial) ?_
    by_cases c1 : v0 = 1
    · rw [if_pos c1] at h
      refine Rc.ifn (fun q => q c1) ?_
      refine Rc.pick [] (lv2 := []) rfl ?_
      exact j_isPart_s_b9_ok hd _ _ _ h
    · rw [if_neg c1] at h
      refine Rc.ifp c1 ?_
      refine Rc.blk (c := []) (s2 := (14, [(0, .int v0)], [.int 0], σ)) 3 rfl rfl (trivial) ?_
      refine Rc.pick [] (lv2 := []) rfl ?_
      exact j_isPart_s_b14_ok hd _ _ _ _ h
theorem j_partOf_s_b28_ok {d : Nat} (hd : 1 ≤ d) (v5 : Int64) (s0 : Int64) (σ : Sg) (r : Int64) (σ2 : Sg) (h : j_partOf_s_b28 v5 s0 σ = some (r, σ2)) : Rc none (Ev MT CT d) sg116 (28, [(5, .long v5)], [.long s0], σ) (fun v s => v = some (.long r) ∧ s = σ2) := by
  unfold j_partOf_s_b28 at h
  obtain ⟨g1, h⟩ := gd_some h
  refine Rc.blk (c := [_]) (s2 := (31, [(5, .long v5)], [.long (s0 / v5)], σ)) 8 rfl rfl (conj_c (neBL_ne g1) (trivial)) ?_
  obtain ⟨rfl, rfl⟩ := some_pair h
  exact Rc.ret 9 rfl rfl rfl trivial ⟨rfl, rfl⟩
theorem j_partOf_s_ok {d : Nat} (hd : 2 ≤ d) {v0 : Int64} {v2 : Int64} {v4 : Int32} {σ : Sg} {r : Int64} {σ2 : Sg} (h : j_partOf_s v0 v2 v4 σ = some (r, σ2)) : Ev MT CT d 116 [.long v0, .long v2, .int v4] σ (fun v s => v = some (.long r) ∧ s = σ2) := by
  obtain ⟨d, rfl⟩ : ∃ e, d = e + 1 := ⟨d - 1, by omega⟩
  refine ⟨Nat.le_of_ble_eq_true rfl, ?_⟩
  show Rc none (Ev MT CT d) sg116 (0, [(0, .long v0), (2, .long v2), (4, .int v4)], [], σ) _
  unfold j_partOf_s at h
  have hd : 1 ≤ d := by omega
  refine Rc.blk (c := []) (s2 := (2, [(0, .long v0), (2, .long v2), (4, .int v4)], [.long v2, .long v0], σ)) 0 rfl rfl (trivial) ?_
  obtain ⟨r1, σ1, hc, h⟩ := bd_some h
  refine Rc.call (Ev.mono d) (v := some (.long r1)) (as := [.long v0, .long v2]) (r := []) 1 rfl rfl rfl rfl (Nat.le_of_ble_eq_true rfl) (j_greatestDivisor_s_ok (by omega) hc) ?_
  show Rc _ _ _ (5, [(0, .long v0), (2, .long v2), (4, .int v4)], [.long r1], σ1) _
  refine Rc.blk (c := []) (s2 := (if ¬ (lg_cmp r1 0) = 0 then 18 else 14, [(5, .long r1), (0, .long v0), (2, .long v2), (4, .int v4)], [], σ1)) 2 rfl rfl (trivial) ?_
  by_cases c3 : (lg_cmp r1 0) = 0
  · rw [if_pos c3] at h
    refine Rc.ifn (fun q => q c3) ?_
    refine Rc.blk (c := []) (s2 := (17, [(5, .long r1), (0, .long v0), (2, .long v2), (4, .int v4)], [.long v4.toInt64], σ1)) 3 rfl rfl (trivial) ?_
    obtain ⟨rfl, rfl⟩ := some_pair h
    exact Rc.ret 4 rfl rfl rfl trivial ⟨rfl, rfl⟩
  · rw [if_neg c3] at h
    refine Rc.ifp c3 ?_
    refine Rc.blk (c := []) (s2 := (if ¬ v4 = 0 then 27 else 23, [(5, .long r1), (0, .long v0), (2, .long v2), (4, .int v4)], [], σ1)) 5 rfl rfl (trivial) ?_
    by_cases c2 : v4 = 0
    · rw [if_pos c2] at h
      refine Rc.ifn (fun q => q c2) ?_
      refine Rc.blk (c := []) (s2 := (28, [(5, .long r1), (0, .long v0), (2, .long v2), (4, .int v4)], [.long v0], σ1)) 6 rfl rfl (trivial) ?_
      refine Rc.pick [0] (lv2 := [(5, .long r1)]) rfl ?_
      exact j_partOf_s_b28_ok hd _ _ _ _ _ h
    · rw [if_neg c2] at h
      refine Rc.ifp c2 ?_
      refine Rc.blk (c := []) (s2 := (28, [(5, .long r1), (0, .long v0), (2, .long v2), (4, .int v4)], [.long v2], σ1)) 7 rfl rfl (trivial) ?_
      refine Rc.pick [0] (lv2 := [(5, .long r1)]) rfl ?_
      exact j_partOf_s_b28_ok hd _ _ _ _ _ h
