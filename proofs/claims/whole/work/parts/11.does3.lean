/-! ===== the small machine does what the functions say ===== -/
theorem j_judge_0_b72_ok {d : Nat} (hd : 1 ≤ d) (v2 : Int32) (σ : Sg) (r : Int32) (σ2 : Sg) (h : j_judge_0_b72 v2 σ = some (r, σ2)) : Rc none (Ev MT CT d) sg91 (72, [(2, .int v2)], [], σ) (fun v s => v = some (.int r) ∧ s = σ2) := by
  unfold j_judge_0_b72 at h
  refine Rc.blk (c := []) (s2 := (73, [(2, .int v2)], [.int v2], σ)) 17 rfl rfl (trivial) ?_
  obtain ⟨rfl, rfl⟩ := some_pair h
  exact Rc.ret 18 rfl rfl rfl trivial ⟨rfl, rfl⟩
theorem j_judge_0_H26_ok {d : Nat} (hd : 1 ≤ d) {k26 : Int32 → Int32 → Sg → Option (Int32 × Sg)} (hk26 : ∀ (v1 : Int32) (v2 : Int32) (σ : Sg) (r : Int32) (σ2 : Sg), k26 v1 v2 σ = some (r, σ2) → Rc none (Ev MT CT d) sg91 (26, [(0, .ref 0), (1, .int v1), (2, .int v2)], [], σ) (fun v s => v = some (.int r) ∧ s = σ2)) (v1 : Int32) (v2 : Int32) (σ : Sg) (r : Int32) (σ2 : Sg) (h : j_judge_0_H26 k26 v1 v2 σ = some (r, σ2)) : Rc none (Ev MT CT d) sg91 (26, [(0, .ref 0), (1, .int v1), (2, .int v2)], [], σ) (fun v s => v = some (.int r) ∧ s = σ2) := by
  unfold j_judge_0_H26 at h
  obtain ⟨g1, h⟩ := gd_some h
  refine Rc.blk (c := [_, _]) (s2 := (if (σ.1 112 v1.toNatClampNeg) ≤ v2 then 80 else 36, [(0, .ref 0), (1, .int v1), (2, .int v2)], [], σ)) 12 rfl rfl (conj_c (rfl) (conj_c (⟨rfl, inB_in g1⟩) (trivial))) ?_
  by_cases c9 : (σ.1 112 v1.toNatClampNeg) ≤ v2
  · rw [if_pos c9] at h
    refine Rc.ifp c9 ?_
    refine Rc.blk (c := []) (s2 := (82, [(0, .ref 0), (1, .int v1), (2, .int v2)], [.int (-9)], σ)) 20 rfl rfl (trivial) ?_
    obtain ⟨rfl, rfl⟩ := some_pair h
    exact Rc.ret 21 rfl rfl rfl trivial ⟨rfl, rfl⟩
  · rw [if_neg c9] at h
    refine Rc.ifn c9 ?_
    refine Rc.blk (c := [_]) (s2 := (42, [(3, .int (v2 / 5)), (0, .ref 0), (1, .int v1), (2, .int v2)], [.int (v2 / 5), .ref 0], σ)) 13 rfl rfl (conj_c ((by decide)) (trivial)) ?_
    obtain ⟨r2, σ2, hc, h⟩ := bd_some h
    refine Rc.call (Ev.mono d) (v := some (.int r2)) (as := [.ref 0, .int (v2 / 5)]) (r := []) 14 rfl rfl rfl rfl ⟨rfl, Nat.le_of_ble_eq_true rfl⟩ (j_isQuantity_0_ok (by omega) hc) ?_
    show Rc _ _ _ (45, [(3, .int (v2 / 5)), (0, .ref 0), (1, .int v1), (2, .int v2)], [.int r2], σ2) _
    refine Rc.blk (c := []) (s2 := (if r2 = 0 then 72 else 48, [(3, .int (v2 / 5)), (0, .ref 0), (1, .int v1), (2, .int v2)], [], σ2)) 15 rfl rfl (trivial) ?_
    by_cases c8 : r2 = 0
    · rw [if_pos c8] at h
      refine Rc.ifp c8 ?_
      refine Rc.pick [3] (lv2 := [(2, .int v2)]) rfl ?_
      exact j_judge_0_b72_ok hd _ _ _ _ h
    · rw [if_neg c8] at h
      refine Rc.ifn c8 ?_
      obtain ⟨g3, h⟩ := gd_some h
      obtain ⟨g4, h⟩ := gd_some h
      obtain ⟨g5, h⟩ := gd_some h
      obtain ⟨g6, h⟩ := gd_some h
      refine Rc.blk (c := [_, _, _, _, _, _, _, _]) (s2 := (if (σ2.1 (108 + 1 + v1.toNatClampNeg) v2.toNatClampNeg) = (σ2.1 (52 + 1 + (v2 / 5).toNatClampNeg) (irm v2 5).toNatClampNeg) then 74 else 72, [(3, .int (v2 / 5)), (0, .ref 0), (1, .int v1), (2, .int v2)], [], σ2)) 16 rfl rfl (conj_c (rfl) (conj_c (⟨Or.inl rfl, inB_in g3⟩) (conj_c (arB_in g4) (conj_c (rfl) (conj_c (rfl) (conj_c (⟨Or.inl rfl, inB_in g5⟩) (conj_c ((by decide)) (conj_c (arB_in g6) (trivial))))))))) ?_
      by_cases c7 : (σ2.1 (108 + 1 + v1.toNatClampNeg) v2.toNatClampNeg) = (σ2.1 (52 + 1 + (v2 / 5).toNatClampNeg) (irm v2 5).toNatClampNeg)
      · rw [if_pos c7] at h
        refine Rc.ifp c7 ?_
        refine Rc.blk (c := []) (s2 := (26, [(2, .int (v2 + 1)), (3, .int (v2 / 5)), (0, .ref 0), (1, .int v1)], [], σ2)) 19 rfl rfl (trivial) ?_
        refine Rc.pick [2, 3, 0] (lv2 := [(0, .ref 0), (1, .int v1), (2, .int (v2 + 1))]) rfl ?_
        exact hk26 _ _ _ _ _ h
      · rw [if_neg c7] at h
        refine Rc.ifn c7 ?_
        refine Rc.pick [3] (lv2 := [(2, .int v2)]) rfl ?_
        exact j_judge_0_b72_ok hd _ _ _ _ h
theorem j_judge_0_L26_ok {d : Nat} (hd : 1 ≤ d) : ∀ (n : Nat) (v1 : Int32) (v2 : Int32) (σ : Sg) (r : Int32) (σ2 : Sg), j_judge_0_L26 n v1 v2 σ = some (r, σ2) → Rc none (Ev MT CT d) sg91 (26, [(0, .ref 0), (1, .int v1), (2, .int v2)], [], σ) (fun v s => v = some (.int r) ∧ s = σ2)
  | 0, _, _, _, _, _, h => by cases h
  | n + 1, v1, v2, σ, r, σ2, h => j_judge_0_H26_ok hd (j_judge_0_L26_ok hd n) v1 v2 σ r σ2 h
theorem j_judge_0_ok {d : Nat} (hd : 2 ≤ d) {v1 : Int32} {σ : Sg} {r : Int32} {σ2 : Sg} (h : j_judge_0 v1 σ = some (r, σ2)) : Ev MT CT d 91 [.ref 0, .int v1] σ (fun v s => v = some (.int r) ∧ s = σ2) := by
  obtain ⟨d, rfl⟩ : ∃ e, d = e + 1 := ⟨d - 1, by omega⟩
  refine ⟨Nat.le_of_ble_eq_true rfl, ?_⟩
  show Rc none (Ev MT CT d) sg91 (0, [(0, .ref 0), (1, .int v1)], [], σ) _
  unfold j_judge_0 at h
  have hd : 1 ≤ d := by omega
  refine Rc.blk (c := []) (s2 := (1, [(0, .ref 0), (1, .int v1)], [.int v1], σ)) 0 rfl rfl (trivial) ?_
  obtain ⟨r1, σ1, hc, h⟩ := bd_some h
  refine Rc.call (Ev.mono d) (v := some (.int r1)) (as := [.int v1]) (r := []) 1 rfl rfl rfl rfl (Nat.le_of_ble_eq_true rfl) (j_isList_s_ok (by omega) hc) ?_
  show Rc _ _ _ (4, [(0, .ref 0), (1, .int v1)], [.int r1], σ1) _
  refine Rc.blk (c := []) (s2 := (if ¬ r1 = 0 then 13 else 7, [(0, .ref 0), (1, .int v1)], [], σ1)) 2 rfl rfl (trivial) ?_
  by_cases c5 : r1 = 0
  · rw [if_pos c5] at h
    refine Rc.ifn (fun q => q c5) ?_
    refine Rc.blk (c := []) (s2 := (9, [(0, .ref 0), (1, .int v1)], [.int (-1), .ref 0], σ1)) 3 rfl rfl (trivial) ?_
    obtain ⟨r4, σ4, hc, h⟩ := bd_some h
    refine Rc.call (Ev.mono d) (v := some (.int r4)) (as := [.ref 0, .int (-1)]) (r := []) 4 rfl rfl rfl rfl ⟨rfl, Nat.le_of_ble_eq_true rfl⟩ (j_refused_0_ok (by omega) hc) ?_
    show Rc _ _ _ (12, [(0, .ref 0), (1, .int v1)], [.int r4], σ4) _
    obtain ⟨rfl, rfl⟩ := some_pair h
    exact Rc.ret 5 rfl rfl rfl trivial ⟨rfl, rfl⟩
  · rw [if_neg c5] at h
    refine Rc.ifp c5 ?_
    refine Rc.blk (c := []) (s2 := (15, [(0, .ref 0), (1, .int v1)], [.int v1, .ref 0], σ1)) 6 rfl rfl (trivial) ?_
    obtain ⟨r2, σ2, hc, h⟩ := bd_some h
    refine Rc.call (Ev.mono d) (v := some (.int r2)) (as := [.ref 0, .int v1]) (r := []) 7 rfl rfl rfl rfl ⟨rfl, Nat.le_of_ble_eq_true rfl⟩ (j_isMissing_0_ok (by omega) hc) ?_
    show Rc _ _ _ (18, [(0, .ref 0), (1, .int v1)], [.int r2], σ2) _
    refine Rc.blk (c := []) (s2 := (if r2 = 0 then 24 else 21, [(0, .ref 0), (1, .int v1)], [], σ2)) 8 rfl rfl (trivial) ?_
    by_cases c3 : r2 = 0
    · rw [if_pos c3] at h
      refine Rc.ifp c3 ?_
      refine Rc.blk (c := []) (s2 := (26, [(2, .int 0), (0, .ref 0), (1, .int v1)], [], σ2)) 11 rfl rfl (trivial) ?_
      refine Rc.pick [1, 2, 0] (lv2 := [(0, .ref 0), (1, .int v1), (2, .int 0)]) rfl ?_
      exact j_judge_0_L26_ok hd fu _ _ _ _ _ h
    · rw [if_neg c3] at h
      refine Rc.ifn c3 ?_
      refine Rc.blk (c := []) (s2 := (23, [(0, .ref 0), (1, .int v1)], [.int (-11)], σ2)) 9 rfl rfl (trivial) ?_
      obtain ⟨rfl, rfl⟩ := some_pair h
      exact Rc.ret 10 rfl rfl rfl trivial ⟨rfl, rfl⟩
theorem j_takeBack_29_1_b103_ok {d : Nat} (hd : 0 ≤ d) (σ : Sg) (r : Unit) (σ2 : Sg) (h : j_takeBack_29_1_b103 σ = some (r, σ2)) : Rc none (Ev MT CT d) sg10 (103, [], [], σ) (fun v s => v = none ∧ s = σ2) := by
  unfold j_takeBack_29_1_b103 at h
  obtain ⟨rfl, rfl⟩ := some_pair h
  exact Rc.ret 5 rfl rfl rfl trivial ⟨rfl, rfl⟩
theorem j_takeBack_29_1_ok {d : Nat} (hd : 1 ≤ d) {σ : Sg} {r : Unit} {σ2 : Sg} (h : j_takeBack_29_1 σ = some (r, σ2)) : Ev MT CT d 10 [.ref 29, .ref 1] σ (fun v s => v = none ∧ s = σ2) := by
  obtain ⟨d, rfl⟩ : ∃ e, d = e + 1 := ⟨d - 1, by omega⟩
  refine ⟨Nat.le_of_ble_eq_true rfl, ?_⟩
  show Rc none (Ev MT CT d) sg10 (0, [(0, .ref 29), (1, .ref 1)], [], σ) _
  unfold j_takeBack_29_1 at h
  have hd : 0 ≤ d := by omega
  obtain ⟨g1, h⟩ := gd_some h
  obtain ⟨g2, h⟩ := gd_some h
  obtain ⟨g3, h⟩ := gd_some h
  refine Rc.blk (c := [_, _, _, _, _, _, _, _, _, _, _]) (s2 := (if ¬ ((si (si σ 29 1 (irm (((σ.1 29 1) + 20) - 1) 20)) 29 2 (imax (((si σ 29 1 (irm (((σ.1 29 1) + 20) - 1) 20)).1 29 2) - 1) 0)).1 (30 + 1 + ((si (si σ 29 1 (irm (((σ.1 29 1) + 20) - 1) 20)) 29 2 (imax (((si σ 29 1 (irm (((σ.1 29 1) + 20) - 1) 20)).1 29 2) - 1) 0)).1 29 1).toNatClampNeg) 0) = 0 then 66 else 50, [(3, .int ((si (si σ 29 1 (irm (((σ.1 29 1) + 20) - 1) 20)) 29 2 (imax (((si σ 29 1 (irm (((σ.1 29 1) + 20) - 1) 20)).1 29 2) - 1) 0)).1 (30 + 1 + ((si (si σ 29 1 (irm (((σ.1 29 1) + 20) - 1) 20)) 29 2 (imax (((si σ 29 1 (irm (((σ.1 29 1) + 20) - 1) 20)).1 29 2) - 1) 0)).1 29 1).toNatClampNeg) 1)), (2, .ref (30 + 1 + ((si (si σ 29 1 (irm (((σ.1 29 1) + 20) - 1) 20)) 29 2 (imax (((si σ 29 1 (irm (((σ.1 29 1) + 20) - 1) 20)).1 29 2) - 1) 0)).1 29 1).toNatClampNeg)), (0, .ref 29), (1, .ref 1)], [], si (si σ 29 1 (irm (((σ.1 29 1) + 20) - 1) 20)) 29 2 (imax (((si σ 29 1 (irm (((σ.1 29 1) + 20) - 1) 20)).1 29 2) - 1) 0))) 0 rfl rfl (conj_c (rfl) (conj_c ((by decide)) (conj_c (rfl) (conj_c (rfl) (conj_c (Nat.le_of_ble_eq_true rfl) (conj_c (rfl) (conj_c (rfl) (conj_c (rfl) (conj_c (⟨Or.inl rfl, inB_in g1⟩) (conj_c (arB_in g2) (conj_c (arB_in g3) (trivial)))))))))))) ?_
  by_cases c16 : ((si (si σ 29 1 (irm (((σ.1 29 1) + 20) - 1) 20)) 29 2 (imax (((si σ 29 1 (irm (((σ.1 29 1) + 20) - 1) 20)).1 29 2) - 1) 0)).1 (30 + 1 + ((si (si σ 29 1 (irm (((σ.1 29 1) + 20) - 1) 20)) 29 2 (imax (((si σ 29 1 (irm (((σ.1 29 1) + 20) - 1) 20)).1 29 2) - 1) 0)).1 29 1).toNatClampNeg) 0) = 0
  · rw [if_pos c16] at h
    refine Rc.ifn (fun q => q c16) ?_
    obtain ⟨g12, h⟩ := gd_some h
    obtain ⟨g13, h⟩ := gd_some h
    obtain ⟨g14, h⟩ := gd_some h
    obtain ⟨g15, h⟩ := gd_some h
    refine Rc.blk (c := [_, _, _, _, _]) (s2 := (103, [(3, .int ((si (si σ 29 1 (irm (((σ.1 29 1) + 20) - 1) 20)) 29 2 (imax (((si σ 29 1 (irm (((σ.1 29 1) + 20) - 1) 20)).1 29 2) - 1) 0)).1 (30 + 1 + ((si (si σ 29 1 (irm (((σ.1 29 1) + 20) - 1) 20)) 29 2 (imax (((si σ 29 1 (irm (((σ.1 29 1) + 20) - 1) 20)).1 29 2) - 1) 0)).1 29 1).toNatClampNeg) 1)), (2, .ref (30 + 1 + ((si (si σ 29 1 (irm (((σ.1 29 1) + 20) - 1) 20)) 29 2 (imax (((si σ 29 1 (irm (((σ.1 29 1) + 20) - 1) 20)).1 29 2) - 1) 0)).1 29 1).toNatClampNeg)), (0, .ref 29), (1, .ref 1)], [], si (si (si σ 29 1 (irm (((σ.1 29 1) + 20) - 1) 20)) 29 2 (imax (((si σ 29 1 (irm (((σ.1 29 1) + 20) - 1) 20)).1 29 2) - 1) 0)) (3 + 1 + ((si (si σ 29 1 (irm (((σ.1 29 1) + 20) - 1) 20)) 29 2 (imax (((si σ 29 1 (irm (((σ.1 29 1) + 20) - 1) 20)).1 29 2) - 1) 0)).1 (30 + 1 + ((si (si σ 29 1 (irm (((σ.1 29 1) + 20) - 1) 20)) 29 2 (imax (((si σ 29 1 (irm (((σ.1 29 1) + 20) - 1) 20)).1 29 2) - 1) 0)).1 29 1).toNatClampNeg) 1).toNatClampNeg) ((si (si σ 29 1 (irm (((σ.1 29 1) + 20) - 1) 20)) 29 2 (imax (((si σ 29 1 (irm (((σ.1 29 1) + 20) - 1) 20)).1 29 2) - 1) 0)).1 (30 + 1 + ((si (si σ 29 1 (irm (((σ.1 29 1) + 20) - 1) 20)) 29 2 (imax (((si σ 29 1 (irm (((σ.1 29 1) + 20) - 1) 20)).1 29 2) - 1) 0)).1 29 1).toNatClampNeg) 2).toNatClampNeg ((si (si σ 29 1 (irm (((σ.1 29 1) + 20) - 1) 20)) 29 2 (imax (((si σ 29 1 (irm (((σ.1 29 1) + 20) - 1) 20)).1 29 2) - 1) 0)).1 (30 + 1 + ((si (si σ 29 1 (irm (((σ.1 29 1) + 20) - 1) 20)) 29 2 (imax (((si σ 29 1 (irm (((σ.1 29 1) + 20) - 1) 20)).1 29 2) - 1) 0)).1 29 1).toNatClampNeg) 3))) 1 rfl rfl (conj_c (rfl) (conj_c (⟨Or.inl rfl, inB_in g12⟩) (conj_c (arB_in g13) (conj_c (arB_in g14) (conj_c (arB_in g15) (trivial)))))) ?_
    refine Rc.pick [] (lv2 := []) rfl ?_
    exact j_takeBack_29_1_b103_ok hd _ _ _ h
  · rw [if_neg c16] at h
    refine Rc.ifp c16 ?_
    obtain ⟨g4, h⟩ := gd_some h
    refine Rc.blk (c := [_]) (s2 := (if ¬ ((si (si σ 29 1 (irm (((σ.1 29 1) + 20) - 1) 20)) 29 2 (imax (((si σ 29 1 (irm (((σ.1 29 1) + 20) - 1) 20)).1 29 2) - 1) 0)).1 (30 + 1 + ((si (si σ 29 1 (irm (((σ.1 29 1) + 20) - 1) 20)) 29 2 (imax (((si σ 29 1 (irm (((σ.1 29 1) + 20) - 1) 20)).1 29 2) - 1) 0)).1 29 1).toNatClampNeg) 0) = 1 then 85 else 73, [(3, .int ((si (si σ 29 1 (irm (((σ.1 29 1) + 20) - 1) 20)) 29 2 (imax (((si σ 29 1 (irm (((σ.1 29 1) + 20) - 1) 20)).1 29 2) - 1) 0)).1 (30 + 1 + ((si (si σ 29 1 (irm (((σ.1 29 1) + 20) - 1) 20)) 29 2 (imax (((si σ 29 1 (irm (((σ.1 29 1) + 20) - 1) 20)).1 29 2) - 1) 0)).1 29 1).toNatClampNeg) 1)), (2, .ref (30 + 1 + ((si (si σ 29 1 (irm (((σ.1 29 1) + 20) - 1) 20)) 29 2 (imax (((si σ 29 1 (irm (((σ.1 29 1) + 20) - 1) 20)).1 29 2) - 1) 0)).1 29 1).toNatClampNeg)), (0, .ref 29), (1, .ref 1)], [], si (si σ 29 1 (irm (((σ.1 29 1) + 20) - 1) 20)) 29 2 (imax (((si σ 29 1 (irm (((σ.1 29 1) + 20) - 1) 20)).1 29 2) - 1) 0))) 2 rfl rfl (conj_c (arB_in g4) (trivial)) ?_
    by_cases c11 : ((si (si σ 29 1 (irm (((σ.1 29 1) + 20) - 1) 20)) 29 2 (imax (((si σ 29 1 (irm (((σ.1 29 1) + 20) - 1) 20)).1 29 2) - 1) 0)).1 (30 + 1 + ((si (si σ 29 1 (irm (((σ.1 29 1) + 20) - 1) 20)) 29 2 (imax (((si σ 29 1 (irm (((σ.1 29 1) + 20) - 1) 20)).1 29 2) - 1) 0)).1 29 1).toNatClampNeg) 0) = 1
    · rw [if_pos c11] at h
      refine Rc.ifn (fun q => q c11) ?_
      obtain ⟨g9, h⟩ := gd_some h
      obtain ⟨g10, h⟩ := gd_some h
      refine Rc.blk (c := [_, _, _]) (s2 := (103, [(3, .int ((si (si σ 29 1 (irm (((σ.1 29 1) + 20) - 1) 20)) 29 2 (imax (((si σ 29 1 (irm (((σ.1 29 1) + 20) - 1) 20)).1 29 2) - 1) 0)).1 (30 + 1 + ((si (si σ 29 1 (irm (((σ.1 29 1) + 20) - 1) 20)) 29 2 (imax (((si σ 29 1 (irm (((σ.1 29 1) + 20) - 1) 20)).1 29 2) - 1) 0)).1 29 1).toNatClampNeg) 1)), (2, .ref (30 + 1 + ((si (si σ 29 1 (irm (((σ.1 29 1) + 20) - 1) 20)) 29 2 (imax (((si σ 29 1 (irm (((σ.1 29 1) + 20) - 1) 20)).1 29 2) - 1) 0)).1 29 1).toNatClampNeg)), (0, .ref 29), (1, .ref 1)], [], si (si (si σ 29 1 (irm (((σ.1 29 1) + 20) - 1) 20)) 29 2 (imax (((si σ 29 1 (irm (((σ.1 29 1) + 20) - 1) 20)).1 29 2) - 1) 0)) 2 ((si (si σ 29 1 (irm (((σ.1 29 1) + 20) - 1) 20)) 29 2 (imax (((si σ 29 1 (irm (((σ.1 29 1) + 20) - 1) 20)).1 29 2) - 1) 0)).1 (30 + 1 + ((si (si σ 29 1 (irm (((σ.1 29 1) + 20) - 1) 20)) 29 2 (imax (((si σ 29 1 (irm (((σ.1 29 1) + 20) - 1) 20)).1 29 2) - 1) 0)).1 29 1).toNatClampNeg) 1).toNatClampNeg ((si (si σ 29 1 (irm (((σ.1 29 1) + 20) - 1) 20)) 29 2 (imax (((si σ 29 1 (irm (((σ.1 29 1) + 20) - 1) 20)).1 29 2) - 1) 0)).1 (30 + 1 + ((si (si σ 29 1 (irm (((σ.1 29 1) + 20) - 1) 20)) 29 2 (imax (((si σ 29 1 (irm (((σ.1 29 1) + 20) - 1) 20)).1 29 2) - 1) 0)).1 29 1).toNatClampNeg) 2))) 3 rfl rfl (conj_c (rfl) (conj_c (arB_in g9) (conj_c (⟨rfl, inB_in g10⟩) (trivial)))) ?_
      refine Rc.pick [] (lv2 := []) rfl ?_
      exact j_takeBack_29_1_b103_ok hd _ _ _ h
    · rw [if_neg c11] at h
      refine Rc.ifp c11 ?_
      obtain ⟨g5, h⟩ := gd_some h
      obtain ⟨g6, h⟩ := gd_some h
      obtain ⟨g7, h⟩ := gd_some h
      obtain ⟨g8, h⟩ := gd_some h
      refine Rc.blk (c := [_, _, _, _, _, _]) (s2 := (103, [(3, .int ((si (si σ 29 1 (irm (((σ.1 29 1) + 20) - 1) 20)) 29 2 (imax (((si σ 29 1 (irm (((σ.1 29 1) + 20) - 1) 20)).1 29 2) - 1) 0)).1 (30 + 1 + ((si (si σ 29 1 (irm (((σ.1 29 1) + 20) - 1) 20)) 29 2 (imax (((si σ 29 1 (irm (((σ.1 29 1) + 20) - 1) 20)).1 29 2) - 1) 0)).1 29 1).toNatClampNeg) 1)), (2, .ref (30 + 1 + ((si (si σ 29 1 (irm (((σ.1 29 1) + 20) - 1) 20)) 29 2 (imax (((si σ 29 1 (irm (((σ.1 29 1) + 20) - 1) 20)).1 29 2) - 1) 0)).1 29 1).toNatClampNeg)), (0, .ref 29), (1, .ref 1)], [], si (si (si (si σ 29 1 (irm (((σ.1 29 1) + 20) - 1) 20)) 29 2 (imax (((si σ 29 1 (irm (((σ.1 29 1) + 20) - 1) 20)).1 29 2) - 1) 0)) 12 ((si (si σ 29 1 (irm (((σ.1 29 1) + 20) - 1) 20)) 29 2 (imax (((si σ 29 1 (irm (((σ.1 29 1) + 20) - 1) 20)).1 29 2) - 1) 0)).1 (30 + 1 + ((si (si σ 29 1 (irm (((σ.1 29 1) + 20) - 1) 20)) 29 2 (imax (((si σ 29 1 (irm (((σ.1 29 1) + 20) - 1) 20)).1 29 2) - 1) 0)).1 29 1).toNatClampNeg) 1).toNatClampNeg ((si (si σ 29 1 (irm (((σ.1 29 1) + 20) - 1) 20)) 29 2 (imax (((si σ 29 1 (irm (((σ.1 29 1) + 20) - 1) 20)).1 29 2) - 1) 0)).1 (30 + 1 + ((si (si σ 29 1 (irm (((σ.1 29 1) + 20) - 1) 20)) 29 2 (imax (((si σ 29 1 (irm (((σ.1 29 1) + 20) - 1) 20)).1 29 2) - 1) 0)).1 29 1).toNatClampNeg) 2)) 13 ((si (si σ 29 1 (irm (((σ.1 29 1) + 20) - 1) 20)) 29 2 (imax (((si σ 29 1 (irm (((σ.1 29 1) + 20) - 1) 20)).1 29 2) - 1) 0)).1 (30 + 1 + ((si (si σ 29 1 (irm (((σ.1 29 1) + 20) - 1) 20)) 29 2 (imax (((si σ 29 1 (irm (((σ.1 29 1) + 20) - 1) 20)).1 29 2) - 1) 0)).1 29 1).toNatClampNeg) 1).toNatClampNeg ((si (si (si σ 29 1 (irm (((σ.1 29 1) + 20) - 1) 20)) 29 2 (imax (((si σ 29 1 (irm (((σ.1 29 1) + 20) - 1) 20)).1 29 2) - 1) 0)) 12 ((si (si σ 29 1 (irm (((σ.1 29 1) + 20) - 1) 20)) 29 2 (imax (((si σ 29 1 (irm (((σ.1 29 1) + 20) - 1) 20)).1 29 2) - 1) 0)).1 (30 + 1 + ((si (si σ 29 1 (irm (((σ.1 29 1) + 20) - 1) 20)) 29 2 (imax (((si σ 29 1 (irm (((σ.1 29 1) + 20) - 1) 20)).1 29 2) - 1) 0)).1 29 1).toNatClampNeg) 1).toNatClampNeg ((si (si σ 29 1 (irm (((σ.1 29 1) + 20) - 1) 20)) 29 2 (imax (((si σ 29 1 (irm (((σ.1 29 1) + 20) - 1) 20)).1 29 2) - 1) 0)).1 (30 + 1 + ((si (si σ 29 1 (irm (((σ.1 29 1) + 20) - 1) 20)) 29 2 (imax (((si σ 29 1 (irm (((σ.1 29 1) + 20) - 1) 20)).1 29 2) - 1) 0)).1 29 1).toNatClampNeg) 2)).1 (30 + 1 + ((si (si σ 29 1 (irm (((σ.1 29 1) + 20) - 1) 20)) 29 2 (imax (((si σ 29 1 (irm (((σ.1 29 1) + 20) - 1) 20)).1 29 2) - 1) 0)).1 29 1).toNatClampNeg) 3))) 4 rfl rfl (conj_c (rfl) (conj_c (arB_in g5) (conj_c (⟨rfl, inB_in g6⟩) (conj_c (rfl) (conj_c (arB_in g7) (conj_c (⟨rfl, inB_in g8⟩) (trivial))))))) ?_
      refine Rc.pick [] (lv2 := []) rfl ?_
      exact j_takeBack_29_1_b103_ok hd _ _ _ h
theorem j_undo_0_ok {d : Nat} (hd : 4 ≤ d) {σ : Sg} {r : Int32} {σ2 : Sg} (h : j_undo_0 σ = some (r, σ2)) : Ev MT CT d 92 [.ref 0] σ (fun v s => v = some (.int r) ∧ s = σ2) := by
  obtain ⟨d, rfl⟩ : ∃ e, d = e + 1 := ⟨d - 1, by omega⟩
  refine ⟨Nat.le_of_ble_eq_true rfl, ?_⟩
  show Rc none (Ev MT CT d) sg92 (0, [(0, .ref 0)], [], σ) _
  unfold j_undo_0 at h
  have hd : 3 ≤ d := by omega
  refine Rc.blk (c := [_, _]) (s2 := (if ¬ (σ.1 29 2) = 0 then 17 else 10, [(0, .ref 0)], [], σ)) 0 rfl rfl (conj_c (rfl) (conj_c (rfl) (trivial))) ?_
  by_cases c4 : (σ.1 29 2) = 0
  · rw [if_pos c4] at h
    refine Rc.ifn (fun q => q c4) ?_
    refine Rc.blk (c := []) (s2 := (13, [(0, .ref 0)], [.int (-3), .ref 0], σ)) 1 rfl rfl (trivial) ?_
    obtain ⟨r3, σ3, hc, h⟩ := bd_some h
    refine Rc.call (Ev.mono d) (v := some (.int r3)) (as := [.ref 0, .int (-3)]) (r := []) 2 rfl rfl rfl rfl ⟨rfl, Nat.le_of_ble_eq_true rfl⟩ (j_refused_0_ok (by omega) hc) ?_
    show Rc _ _ _ (16, [(0, .ref 0)], [.int r3], σ3) _
    obtain ⟨rfl, rfl⟩ := some_pair h
    exact Rc.ret 3 rfl rfl rfl trivial ⟨rfl, rfl⟩
  · rw [if_neg c4] at h
    refine Rc.ifp c4 ?_
    refine Rc.blk (c := [_, _]) (s2 := (25, [(0, .ref 0)], [.ref 1, .ref 29], σ)) 4 rfl rfl (conj_c (rfl) (conj_c (rfl) (trivial))) ?_
    obtain ⟨r1, σ1, hc, h⟩ := bd_some h
    refine Rc.call (Ev.mono d) (v := none) (as := [.ref 29, .ref 1]) (r := []) 5 rfl rfl rfl rfl ⟨rfl, Nat.le_of_ble_eq_true rfl⟩ (j_takeBack_29_1_ok (by omega) hc) ?_
    show Rc _ _ _ (28, [(0, .ref 0)], [], σ1) _
    refine Rc.blk (c := [_, _]) (s2 := (36, [(0, .ref 0)], [.ref 1, .ref 51], σ1)) 6 rfl rfl (conj_c (rfl) (conj_c (rfl) (trivial))) ?_
    obtain ⟨r2, σ2, hc, h⟩ := bd_some h
    refine Rc.call (Ev.mono d) (v := none) (as := [.ref 51, .ref 1]) (r := []) 7 rfl rfl rfl rfl ⟨rfl, Nat.le_of_ble_eq_true rfl⟩ (j_measure_51_1_ok (by omega) hc) ?_
    show Rc _ _ _ (39, [(0, .ref 0)], [], σ2) _
    refine Rc.blk (c := [_, _]) (s2 := (46, [(0, .ref 0)], [.int (σ2.1 29 2)], σ2)) 8 rfl rfl (conj_c (rfl) (conj_c (rfl) (trivial))) ?_
    obtain ⟨rfl, rfl⟩ := some_pair h
    exact Rc.ret 9 rfl rfl rfl trivial ⟨rfl, rfl⟩
theorem j_keepFormula_15_14_ok {d : Nat} (hd : 1 ≤ d) {v2 : Int32} {v3 : Int32} {σ : Sg} {r : Unit} {σ2 : Sg} (h : j_keepFormula_15_14 v2 v3 σ = some (r, σ2)) : Ev MT CT d 13 [.ref 15, .ref 14, .int v2, .int v3] σ (fun v s => v = none ∧ s = σ2) := by
  obtain ⟨d, rfl⟩ : ∃ e, d = e + 1 := ⟨d - 1, by omega⟩
  refine ⟨Nat.le_of_ble_eq_true rfl, ?_⟩
  show Rc none (Ev MT CT d) sg13 (0, [(0, .ref 15), (1, .ref 14), (2, .int v2), (3, .int v3)], [], σ) _
  unfold j_keepFormula_15_14 at h
  have hd : 0 ≤ d := by omega
  obtain ⟨g1, h⟩ := gd_some h
  refine Rc.blk (c := [_, _, _, _, _, _]) (s2 := (29, [(0, .ref 15), (1, .ref 14), (2, .int v2), (3, .int v3)], [], si (scp (si σ 15 6 (imin v2 72)) 14 28 0 0 (((si σ 15 6 (imin v2 72)).1 15 6).toNatClampNeg)) 15 7 v3)) 0 rfl rfl (conj_c (Nat.le_of_ble_eq_true rfl) (conj_c (rfl) (conj_c (rfl) (conj_c (rfl) (conj_c (cpB_ok (by decide) g1) (conj_c (rfl) (trivial))))))) ?_
  obtain ⟨rfl, rfl⟩ := some_pair h
  exact Rc.ret 1 rfl rfl rfl trivial ⟨rfl, rfl⟩
theorem j_copyFrom_15_1_H10_ok {d : Nat} (hd : 1 ≤ d) {k10 : Int32 → Sg → Option (Unit × Sg)} (hk10 : ∀ (v2 : Int32) (σ : Sg) (r : Unit) (σ2 : Sg), k10 v2 σ = some (r, σ2) → Rc none (Ev MT CT d) sg11 (10, [(0, .ref 15), (1, .ref 1), (2, .int v2)], [], σ) (fun v s => v = none ∧ s = σ2)) (v2 : Int32) (σ : Sg) (r : Unit) (σ2 : Sg) (h : j_copyFrom_15_1_H10 k10 v2 σ = some (r, σ2)) : Rc none (Ev MT CT d) sg11 (10, [(0, .ref 15), (1, .ref 1), (2, .int v2)], [], σ) (fun v s => v = none ∧ s = σ2) := by
  unfold j_copyFrom_15_1_H10 at h
  refine Rc.blk (c := [_]) (s2 := (if (σ.1 15 0) ≤ v2 then 78 else 18, [(0, .ref 15), (1, .ref 1), (2, .int v2)], [], σ)) 1 rfl rfl (conj_c (rfl) (trivial)) ?_
  by_cases c11 : (σ.1 15 0) ≤ v2
  · rw [if_pos c11] at h
    refine Rc.ifp c11 ?_
    refine Rc.blk (c := [_, _, _]) (s2 := (91, [(0, .ref 15), (1, .ref 1), (2, .int v2)], [.int (σ.1 1 7), .int (σ.1 1 6), .ref 14, .ref 15], σ)) 3 rfl rfl (conj_c (rfl) (conj_c (rfl) (conj_c (rfl) (trivial)))) ?_
    obtain ⟨r1, σ1, hc, h⟩ := bd_some h
    refine Rc.call (Ev.mono d) (v := none) (as := [.ref 15, .ref 14, .int (σ.1 1 6), .int (σ.1 1 7)]) (r := []) 4 rfl rfl rfl rfl ⟨rfl, Nat.le_of_ble_eq_true rfl⟩ (j_keepFormula_15_14_ok (by omega) hc) ?_
    show Rc _ _ _ (94, [(0, .ref 15), (1, .ref 1), (2, .int v2)], [], σ1) _
    obtain ⟨rfl, rfl⟩ := some_pair h
    exact Rc.ret 5 rfl rfl rfl trivial ⟨rfl, rfl⟩
  · rw [if_neg c11] at h
    refine Rc.ifn c11 ?_
    obtain ⟨g2, h⟩ := gd_some h
    obtain ⟨g3, h⟩ := gd_some h
    obtain ⟨g4, h⟩ := gd_some h
    obtain ⟨g5, h⟩ := gd_some h
    obtain ⟨g6, h⟩ := gd_some h
    obtain ⟨g7, h⟩ := gd_some h
    obtain ⟨g8, h⟩ := gd_some h
    obtain ⟨g9, h⟩ := gd_some h
    obtain ⟨g10, h⟩ := gd_some h
    refine Rc.blk (c := [_, _, _, _, _, _, _, _, _, _, _, _, _, _, _, _, _]) (s2 := (10, [(2, .int (v2 + 1)), (0, .ref 15), (1, .ref 1)], [], scp (si (si (si σ 16 v2.toNatClampNeg (σ.1 2 v2.toNatClampNeg)) 26 v2.toNatClampNeg ((si σ 16 v2.toNatClampNeg (σ.1 2 v2.toNatClampNeg)).1 12 v2.toNatClampNeg)) 27 v2.toNatClampNeg ((si (si σ 16 v2.toNatClampNeg (σ.1 2 v2.toNatClampNeg)) 26 v2.toNatClampNeg ((si σ 16 v2.toNatClampNeg (σ.1 2 v2.toNatClampNeg)).1 12 v2.toNatClampNeg)).1 13 v2.toNatClampNeg)) (3 + 1 + v2.toNatClampNeg) (17 + 1 + v2.toNatClampNeg) 0 0 5)) 2 rfl rfl (conj_c (rfl) (conj_c (rfl) (conj_c (⟨rfl, inB_in g2⟩) (conj_c (⟨rfl, inB_in g3⟩) (conj_c (rfl) (conj_c (rfl) (conj_c (⟨rfl, inB_in g4⟩) (conj_c (⟨rfl, inB_in g5⟩) (conj_c (rfl) (conj_c (rfl) (conj_c (⟨rfl, inB_in g6⟩) (conj_c (⟨rfl, inB_in g7⟩) (conj_c (rfl) (conj_c (⟨Or.inl rfl, inB_in g8⟩) (conj_c (rfl) (conj_c (⟨Or.inl rfl, inB_in g9⟩) (conj_c (cpB_ok (by decide) g10) (trivial)))))))))))))))))) ?_
    refine Rc.pick [1, 2, 0] (lv2 := [(0, .ref 15), (1, .ref 1), (2, .int (v2 + 1))]) rfl ?_
    exact hk10 _ _ _ _ h
theorem j_copyFrom_15_1_L10_ok {d : Nat} (hd : 1 ≤ d) : ∀ (n : Nat) (v2 : Int32) (σ : Sg) (r : Unit) (σ2 : Sg), j_copyFrom_15_1_L10 n v2 σ = some (r, σ2) → Rc none (Ev MT CT d) sg11 (10, [(0, .ref 15), (1, .ref 1), (2, .int v2)], [], σ) (fun v s => v = none ∧ s = σ2)
  | 0, _, _, _, _, h => by cases h
  | n + 1, v2, σ, r, σ2, h => j_copyFrom_15_1_H10_ok hd (j_copyFrom_15_1_L10_ok hd n) v2 σ r σ2 h
theorem j_copyFrom_15_1_ok {d : Nat} (hd : 2 ≤ d) {σ : Sg} {r : Unit} {σ2 : Sg} (h : j_copyFrom_15_1 σ = some (r, σ2)) : Ev MT CT d 11 [.ref 15, .ref 1] σ (fun v s => v = none ∧ s = σ2) := by
  obtain ⟨d, rfl⟩ : ∃ e, d = e + 1 := ⟨d - 1, by omega⟩
  refine ⟨Nat.le_of_ble_eq_true rfl, ?_⟩
  show Rc none (Ev MT CT d) sg11 (0, [(0, .ref 15), (1, .ref 1)], [], σ) _
  unfold j_copyFrom_15_1 at h
  have hd : 1 ≤ d := by omega
  refine Rc.blk (c := [_, _]) (s2 := (10, [(2, .int 0), (0, .ref 15), (1, .ref 1)], [], si σ 15 0 (σ.1 1 0))) 0 rfl rfl (conj_c (rfl) (conj_c (rfl) (trivial))) ?_
  refine Rc.pick [1, 2, 0] (lv2 := [(0, .ref 15), (1, .ref 1), (2, .int 0)]) rfl ?_
  exact j_copyFrom_15_1_L10_ok hd fu _ _ _ _ h
theorem j_image_0_ok {d : Nat} (hd : 3 ≤ d) {σ : Sg} {r : Int32} {σ2 : Sg} (h : j_image_0 σ = some (r, σ2)) : Ev MT CT d 93 [.ref 0] σ (fun v s => v = some (.int r) ∧ s = σ2) := by
  obtain ⟨d, rfl⟩ : ∃ e, d = e + 1 := ⟨d - 1, by omega⟩
  refine ⟨Nat.le_of_ble_eq_true rfl, ?_⟩
  show Rc none (Ev MT CT d) sg93 (0, [(0, .ref 0)], [], σ) _
  unfold j_image_0 at h
  have hd : 2 ≤ d := by omega
  refine Rc.blk (c := [_, _]) (s2 := (8, [(0, .ref 0)], [.ref 1, .ref 15], σ)) 0 rfl rfl (conj_c (rfl) (conj_c (rfl) (trivial))) ?_
  obtain ⟨r1, σ1, hc, h⟩ := bd_some h
  refine Rc.call (Ev.mono d) (v := none) (as := [.ref 15, .ref 1]) (r := []) 1 rfl rfl rfl rfl ⟨rfl, Nat.le_of_ble_eq_true rfl⟩ (j_copyFrom_15_1_ok (by omega) hc) ?_
  show Rc _ _ _ (11, [(0, .ref 0)], [], σ1) _
  refine Rc.blk (c := [_, _, _]) (s2 := (23, [(0, .ref 0)], [.int ((si σ1 0 2 1).1 1 0)], si σ1 0 2 1)) 2 rfl rfl (conj_c (⟨rfl, Or.inr rfl⟩) (conj_c (rfl) (conj_c (rfl) (trivial)))) ?_
  obtain ⟨rfl, rfl⟩ := some_pair h
  exact Rc.ret 3 rfl rfl rfl trivial ⟨rfl, rfl⟩
theorem j_keepFormula_1_28_ok {d : Nat} (hd : 1 ≤ d) {v2 : Int32} {v3 : Int32} {σ : Sg} {r : Unit} {σ2 : Sg} (h : j_keepFormula_1_28 v2 v3 σ = some (r, σ2)) : Ev MT CT d 13 [.ref 1, .ref 28, .int v2, .int v3] σ (fun v s => v = none ∧ s = σ2) := by
  obtain ⟨d, rfl⟩ : ∃ e, d = e + 1 := ⟨d - 1, by omega⟩
  refine ⟨Nat.le_of_ble_eq_true rfl, ?_⟩
  show Rc none (Ev MT CT d) sg13 (0, [(0, .ref 1), (1, .ref 28), (2, .int v2), (3, .int v3)], [], σ) _
  unfold j_keepFormula_1_28 at h
  have hd : 0 ≤ d := by omega
  obtain ⟨g1, h⟩ := gd_some h
  refine Rc.blk (c := [_, _, _, _, _, _]) (s2 := (29, [(0, .ref 1), (1, .ref 28), (2, .int v2), (3, .int v3)], [], si (scp (si σ 1 6 (imin v2 72)) 28 14 0 0 (((si σ 1 6 (imin v2 72)).1 1 6).toNatClampNeg)) 1 7 v3)) 0 rfl rfl (conj_c (Nat.le_of_ble_eq_true rfl) (conj_c (rfl) (conj_c (rfl) (conj_c (rfl) (conj_c (cpB_ok (by decide) g1) (conj_c (rfl) (trivial))))))) ?_
  obtain ⟨rfl, rfl⟩ := some_pair h
  exact Rc.ret 1 rfl rfl rfl trivial ⟨rfl, rfl⟩
theorem j_copyFrom_1_15_H10_ok {d : Nat} (hd : 1 ≤ d) {k10 : Int32 → Sg → Option (Unit × Sg)} (hk10 : ∀ (v2 : Int32) (σ : Sg) (r : Unit) (σ2 : Sg), k10 v2 σ = some (r, σ2) → Rc none (Ev MT CT d) sg11 (10, [(0, .ref 1), (1, .ref 15), (2, .int v2)], [], σ) (fun v s => v = none ∧ s = σ2)) (v2 : Int32) (σ : Sg) (r : Unit) (σ2 : Sg) (h : j_copyFrom_1_15_H10 k10 v2 σ = some (r, σ2)) : Rc none (Ev MT CT d) sg11 (10, [(0, .ref 1), (1, .ref 15), (2, .int v2)], [], σ) (fun v s => v = none ∧ s = σ2) := by
  unfold j_copyFrom_1_15_H10 at h
  refine Rc.blk (c := [_]) (s2 := (if (σ.1 1 0) ≤ v2 then 78 else 18, [(0, .ref 1), (1, .ref 15), (2, .int v2)], [], σ)) 1 rfl rfl (conj_c (rfl) (trivial)) ?_
  by_cases c11 : (σ.1 1 0) ≤ v2
  · rw [if_pos c11] at h
    refine Rc.ifp c11 ?_
    refine Rc.blk (c := [_, _, _]) (s2 := (91, [(0, .ref 1), (1, .ref 15), (2, .int v2)], [.int (σ.1 15 7), .int (σ.1 15 6), .ref 28, .ref 1], σ)) 3 rfl rfl (conj_c (rfl) (conj_c (rfl) (conj_c (rfl) (trivial)))) ?_
    obtain ⟨r1, σ1, hc, h⟩ := bd_some h
    refine Rc.call (Ev.mono d) (v := none) (as := [.ref 1, .ref 28, .int (σ.1 15 6), .int (σ.1 15 7)]) (r := []) 4 rfl rfl rfl rfl ⟨rfl, Nat.le_of_ble_eq_true rfl⟩ (j_keepFormula_1_28_ok (by omega) hc) ?_
    show Rc _ _ _ (94, [(0, .ref 1), (1, .ref 15), (2, .int v2)], [], σ1) _
    obtain ⟨rfl, rfl⟩ := some_pair h
    exact Rc.ret 5 rfl rfl rfl trivial ⟨rfl, rfl⟩
  · rw [if_neg c11] at h
    refine Rc.ifn c11 ?_
    obtain ⟨g2, h⟩ := gd_some h
    obtain ⟨g3, h⟩ := gd_some h
    obtain ⟨g4, h⟩ := gd_some h
    obtain ⟨g5, h⟩ := gd_some h
    obtain ⟨g6, h⟩ := gd_some h
    obtain ⟨g7, h⟩ := gd_some h
    obtain ⟨g8, h⟩ := gd_some h
    obtain ⟨g9, h⟩ := gd_some h
    obtain ⟨g10, h⟩ := gd_some h
    refine Rc.blk (c := [_, _, _, _, _, _, _, _, _, _, _, _, _, _, _, _, _]) (s2 := (10, [(2, .int (v2 + 1)), (0, .ref 1), (1, .ref 15)], [], scp (si (si (si σ 2 v2.toNatClampNeg (σ.1 16 v2.toNatClampNeg)) 12 v2.toNatClampNeg ((si σ 2 v2.toNatClampNeg (σ.1 16 v2.toNatClampNeg)).1 26 v2.toNatClampNeg)) 13 v2.toNatClampNeg ((si (si σ 2 v2.toNatClampNeg (σ.1 16 v2.toNatClampNeg)) 12 v2.toNatClampNeg ((si σ 2 v2.toNatClampNeg (σ.1 16 v2.toNatClampNeg)).1 26 v2.toNatClampNeg)).1 27 v2.toNatClampNeg)) (17 + 1 + v2.toNatClampNeg) (3 + 1 + v2.toNatClampNeg) 0 0 5)) 2 rfl rfl (conj_c (rfl) (conj_c (rfl) (conj_c (⟨rfl, inB_in g2⟩) (conj_c (⟨rfl, inB_in g3⟩) (conj_c (rfl) (conj_c (rfl) (conj_c (⟨rfl, inB_in g4⟩) (conj_c (⟨rfl, inB_in g5⟩) (conj_c (rfl) (conj_c (rfl) (conj_c (⟨rfl, inB_in g6⟩) (conj_c (⟨rfl, inB_in g7⟩) (conj_c (rfl) (conj_c (⟨Or.inl rfl, inB_in g8⟩) (conj_c (rfl) (conj_c (⟨Or.inl rfl, inB_in g9⟩) (conj_c (cpB_ok (by decide) g10) (trivial)))))))))))))))))) ?_
    refine Rc.pick [1, 2, 0] (lv2 := [(0, .ref 1), (1, .ref 15), (2, .int (v2 + 1))]) rfl ?_
    exact hk10 _ _ _ _ h
theorem j_copyFrom_1_15_L10_ok {d : Nat} (hd : 1 ≤ d) : ∀ (n : Nat) (v2 : Int32) (σ : Sg) (r : Unit) (σ2 : Sg), j_copyFrom_1_15_L10 n v2 σ = some (r, σ2) → Rc none (Ev MT CT d) sg11 (10, [(0, .ref 1), (1, .ref 15), (2, .int v2)], [], σ) (fun v s => v = none ∧ s = σ2)
  | 0, _, _, _, _, h => by cases h
  | n + 1, v2, σ, r, σ2, h => j_copyFrom_1_15_H10_ok hd (j_copyFrom_1_15_L10_ok hd n) v2 σ r σ2 h
theorem j_copyFrom_1_15_ok {d : Nat} (hd : 2 ≤ d) {σ : Sg} {r : Unit} {σ2 : Sg} (h : j_copyFrom_1_15 σ = some (r, σ2)) : Ev MT CT d 11 [.ref 1, .ref 15] σ (fun v s => v = none ∧ s = σ2) := by
  obtain ⟨d, rfl⟩ : ∃ e, d = e + 1 := ⟨d - 1, by omega⟩
  refine ⟨Nat.le_of_ble_eq_true rfl, ?_⟩
  show Rc none (Ev MT CT d) sg11 (0, [(0, .ref 1), (1, .ref 15)], [], σ) _
  unfold j_copyFrom_1_15 at h
  have hd : 1 ≤ d := by omega
  refine Rc.blk (c := [_, _]) (s2 := (10, [(2, .int 0), (0, .ref 1), (1, .ref 15)], [], si σ 1 0 (σ.1 15 0))) 0 rfl rfl (conj_c (rfl) (conj_c (rfl) (trivial))) ?_
  refine Rc.pick [1, 2, 0] (lv2 := [(0, .ref 1), (1, .ref 15), (2, .int 0)]) rfl ?_
  exact j_copyFrom_1_15_L10_ok hd fu _ _ _ _ h
theorem j_on_0_ok {d : Nat} (hd : 4 ≤ d) {σ : Sg} {r : Int32} {σ2 : Sg} (h : j_on_0 σ = some (r, σ2)) : Ev MT CT d 94 [.ref 0] σ (fun v s => v = some (.int r) ∧ s = σ2) := by
  obtain ⟨d, rfl⟩ : ∃ e, d = e + 1 := ⟨d - 1, by omega⟩
  refine ⟨Nat.le_of_ble_eq_true rfl, ?_⟩
  show Rc none (Ev MT CT d) sg94 (0, [(0, .ref 0)], [], σ) _
  unfold j_on_0 at h
  have hd : 3 ≤ d := by omega
  refine Rc.blk (c := [_]) (s2 := (if ¬ (σ.1 0 2) = 0 then 14 else 7, [(0, .ref 0)], [], σ)) 0 rfl rfl (conj_c (rfl) (trivial)) ?_
  by_cases c5 : (σ.1 0 2) = 0
  · rw [if_pos c5] at h
    refine Rc.ifn (fun q => q c5) ?_
    refine Rc.blk (c := []) (s2 := (10, [(0, .ref 0)], [.int (-3), .ref 0], σ)) 1 rfl rfl (trivial) ?_
    obtain ⟨r4, σ4, hc, h⟩ := bd_some h
    refine Rc.call (Ev.mono d) (v := some (.int r4)) (as := [.ref 0, .int (-3)]) (r := []) 2 rfl rfl rfl rfl ⟨rfl, Nat.le_of_ble_eq_true rfl⟩ (j_refused_0_ok (by omega) hc) ?_
    show Rc _ _ _ (13, [(0, .ref 0)], [.int r4], σ4) _
    obtain ⟨rfl, rfl⟩ := some_pair h
    exact Rc.ret 3 rfl rfl rfl trivial ⟨rfl, rfl⟩
  · rw [if_neg c5] at h
    refine Rc.ifp c5 ?_
    refine Rc.blk (c := [_, _]) (s2 := (22, [(0, .ref 0)], [.ref 15, .ref 1], σ)) 4 rfl rfl (conj_c (rfl) (conj_c (rfl) (trivial))) ?_
    obtain ⟨r1, σ1, hc, h⟩ := bd_some h
    refine Rc.call (Ev.mono d) (v := none) (as := [.ref 1, .ref 15]) (r := []) 5 rfl rfl rfl rfl ⟨rfl, Nat.le_of_ble_eq_true rfl⟩ (j_copyFrom_1_15_ok (by omega) hc) ?_
    show Rc _ _ _ (25, [(0, .ref 0)], [], σ1) _
    refine Rc.blk (c := [_]) (s2 := (29, [(0, .ref 0)], [.ref 29], σ1)) 6 rfl rfl (conj_c (rfl) (trivial)) ?_
    obtain ⟨r2, σ2, hc, h⟩ := bd_some h
    refine Rc.call (Ev.mono d) (v := none) (as := [.ref 29]) (r := []) 7 rfl rfl rfl rfl ⟨rfl, Nat.le_of_ble_eq_true rfl⟩ (j_forget_29_ok (by omega) hc) ?_
    show Rc _ _ _ (32, [(0, .ref 0)], [], σ2) _
    refine Rc.blk (c := [_, _]) (s2 := (40, [(0, .ref 0)], [.ref 1, .ref 51], σ2)) 8 rfl rfl (conj_c (rfl) (conj_c (rfl) (trivial))) ?_
    obtain ⟨r3, σ3, hc, h⟩ := bd_some h
    refine Rc.call (Ev.mono d) (v := none) (as := [.ref 51, .ref 1]) (r := []) 9 rfl rfl rfl rfl ⟨rfl, Nat.le_of_ble_eq_true rfl⟩ (j_measure_51_1_ok (by omega) hc) ?_
    show Rc _ _ _ (43, [(0, .ref 0)], [], σ3) _
    refine Rc.blk (c := [_, _]) (s2 := (50, [(0, .ref 0)], [.int (σ3.1 1 0)], σ3)) 10 rfl rfl (conj_c (rfl) (conj_c (rfl) (trivial))) ?_
    obtain ⟨rfl, rfl⟩ := some_pair h
    exact Rc.ret 11 rfl rfl rfl trivial ⟨rfl, rfl⟩
theorem j_count_0_b87_ok {d : Nat} (hd : 2 ≤ d) (s0 : Int32) (σ : Sg) (r : Int32) (σ2 : Sg) (h : j_count_0_b87 s0 σ = some (r, σ2)) : Rc none (Ev MT CT d) sg95 (87, [], [.int s0], σ) (fun v s => v = some (.int r) ∧ s = σ2) := by
  unfold j_count_0_b87 at h
  obtain ⟨rfl, rfl⟩ := some_pair h
  exact Rc.ret 20 rfl rfl rfl trivial ⟨rfl, rfl⟩
theorem j_count_0_b85_ok {d : Nat} (hd : 2 ≤ d) (σ : Sg) (r : Int32) (σ2 : Sg) (h : j_count_0_b85 σ = some (r, σ2)) : Rc none (Ev MT CT d) sg95 (85, [], [], σ) (fun v s => v = some (.int r) ∧ s = σ2) := by
  unfold j_count_0_b85 at h
  refine Rc.blk (c := []) (s2 := (87, [], [.int (-9)], σ)) 19 rfl rfl (trivial) ?_
  exact j_count_0_b87_ok hd _ _ _ _ h
theorem j_count_0_ok {d : Nat} (hd : 3 ≤ d) {v1 : Int32} {σ : Sg} {r : Int32} {σ2 : Sg} (h : j_count_0 v1 σ = some (r, σ2)) : Ev MT CT d 95 [.ref 0, .int v1] σ (fun v s => v = some (.int r) ∧ s = σ2) := by
  obtain ⟨d, rfl⟩ : ∃ e, d = e + 1 := ⟨d - 1, by omega⟩
  refine ⟨Nat.le_of_ble_eq_true rfl, ?_⟩
  show Rc none (Ev MT CT d) sg95 (0, [(0, .ref 0), (1, .int v1)], [], σ) _
  unfold j_count_0 at h
  have hd : 2 ≤ d := by omega
  refine Rc.blk (c := []) (s2 := (if ¬ v1 = 0 then 12 else 4, [(0, .ref 0), (1, .int v1)], [], σ)) 0 rfl rfl (trivial) ?_
  by_cases c9 : v1 = 0
  · rw [if_pos c9] at h
    refine Rc.ifn (fun q => q c9) ?_
    refine Rc.blk (c := [_, _]) (s2 := (11, [(0, .ref 0), (1, .int v1)], [.int (σ.1 1 0)], σ)) 1 rfl rfl (conj_c (rfl) (conj_c (rfl) (trivial))) ?_
    obtain ⟨rfl, rfl⟩ := some_pair h
    exact Rc.ret 2 rfl rfl rfl trivial ⟨rfl, rfl⟩
  · rw [if_neg c9] at h
    refine Rc.ifp c9 ?_
    refine Rc.blk (c := []) (s2 := (if ¬ v1 = 1 then 22 else 17, [(0, .ref 0), (1, .int v1)], [], σ)) 3 rfl rfl (trivial) ?_
    by_cases c8 : v1 = 1
    · rw [if_pos c8] at h
      refine Rc.ifn (fun q => q c8) ?_
      refine Rc.blk (c := [_]) (s2 := (21, [(0, .ref 0), (1, .int v1)], [.int (σ.1 0 9)], σ)) 4 rfl rfl (conj_c (rfl) (trivial)) ?_
      obtain ⟨rfl, rfl⟩ := some_pair h
      exact Rc.ret 5 rfl rfl rfl trivial ⟨rfl, rfl⟩
    · rw [if_neg c8] at h
      refine Rc.ifp c8 ?_
      refine Rc.blk (c := []) (s2 := (if ¬ v1 = 2 then 35 else 27, [(0, .ref 0), (1, .int v1)], [], σ)) 6 rfl rfl (trivial) ?_
      by_cases c7 : v1 = 2
      · rw [if_pos c7] at h
        refine Rc.ifn (fun q => q c7) ?_
        refine Rc.blk (c := [_]) (s2 := (31, [(0, .ref 0), (1, .int v1)], [.ref 1], σ)) 7 rfl rfl (conj_c (rfl) (trivial)) ?_
        obtain ⟨r6, σ6, hc, h⟩ := bd_some h
        refine Rc.call (Ev.mono d) (v := some (.int r6)) (as := [.ref 1]) (r := []) 8 rfl rfl rfl rfl ⟨rfl, Nat.le_of_ble_eq_true rfl⟩ (j_scaledSet_1_ok (by omega) hc) ?_
        show Rc _ _ _ (34, [(0, .ref 0), (1, .int v1)], [.int r6], σ6) _
        obtain ⟨rfl, rfl⟩ := some_pair h
        exact Rc.ret 9 rfl rfl rfl trivial ⟨rfl, rfl⟩
      · rw [if_neg c7] at h
        refine Rc.ifp c7 ?_
        refine Rc.blk (c := []) (s2 := (if ¬ v1 = 3 then 48 else 40, [(0, .ref 0), (1, .int v1)], [], σ)) 10 rfl rfl (trivial) ?_
        by_cases c5 : v1 = 3
        · rw [if_pos c5] at h
          refine Rc.ifn (fun q => q c5) ?_
          refine Rc.blk (c := [_, _]) (s2 := (47, [(0, .ref 0), (1, .int v1)], [.int (σ.1 1 7)], σ)) 11 rfl rfl (conj_c (rfl) (conj_c (rfl) (trivial))) ?_
          obtain ⟨rfl, rfl⟩ := some_pair h
          exact Rc.ret 12 rfl rfl rfl trivial ⟨rfl, rfl⟩
        · rw [if_neg c5] at h
          refine Rc.ifp c5 ?_
          refine Rc.blk (c := []) (s2 := (if ¬ v1 = 4 then 61 else 53, [(0, .ref 0), (1, .int v1)], [], σ)) 13 rfl rfl (trivial) ?_
          by_cases c4 : v1 = 4
          · rw [if_pos c4] at h
            refine Rc.ifn (fun q => q c4) ?_
            refine Rc.blk (c := [_, _]) (s2 := (60, [(0, .ref 0), (1, .int v1)], [.int (σ.1 29 2)], σ)) 14 rfl rfl (conj_c (rfl) (conj_c (rfl) (trivial))) ?_
            obtain ⟨rfl, rfl⟩ := some_pair h
            exact Rc.ret 15 rfl rfl rfl trivial ⟨rfl, rfl⟩
          · rw [if_neg c4] at h
            refine Rc.ifp c4 ?_
            refine Rc.blk (c := []) (s2 := (if v1 < 11 then 85 else 67, [(0, .ref 0), (1, .int v1)], [], σ)) 16 rfl rfl (trivial) ?_
            by_cases c3 : v1 < 11
            · rw [if_pos c3] at h
              refine Rc.ifp c3 ?_
              refine Rc.pick [] (lv2 := []) rfl ?_
              exact j_count_0_b85_ok hd _ _ _ h
            · rw [if_neg c3] at h
              refine Rc.ifn c3 ?_
              refine Rc.blk (c := []) (s2 := (if 16 < v1 then 85 else 73, [(0, .ref 0), (1, .int v1)], [], σ)) 17 rfl rfl (trivial) ?_
              by_cases c2 : 16 < v1
              · rw [if_pos c2] at h
                refine Rc.ifp c2 ?_
                refine Rc.pick [] (lv2 := []) rfl ?_
                exact j_count_0_b85_ok hd _ _ _ h
              · rw [if_neg c2] at h
                refine Rc.ifn c2 ?_
                obtain ⟨g1, h⟩ := gd_some h
                refine Rc.blk (c := [_, _]) (s2 := (87, [(0, .ref 0), (1, .int v1)], [.int (σ.1 116 (v1 - 10).toNatClampNeg)], σ)) 18 rfl rfl (conj_c (rfl) (conj_c (⟨rfl, inB_in g1⟩) (trivial))) ?_
                refine Rc.pick [] (lv2 := []) rfl ?_
                exact j_count_0_b87_ok hd _ _ _ _ h
theorem m_refuse_117_b16_ok {d : Nat} (hd : 0 ≤ d) (v1 : Int32) (σ : Sg) (r : Int32) (σ2 : Sg) (h : m_refuse_117_b16 v1 σ = some (r, σ2)) : Rc none (Ev MT CT d) sg120 (16, [(1, .int v1)], [], σ) (fun v s => v = some (.int r) ∧ s = σ2) := by
  unfold m_refuse_117_b16 at h
  refine Rc.blk (c := []) (s2 := (18, [(1, .int v1)], [.int (-v1)], σ)) 2 rfl rfl (trivial) ?_
  obtain ⟨rfl, rfl⟩ := some_pair h
  exact Rc.ret 3 rfl rfl rfl trivial ⟨rfl, rfl⟩
theorem m_refuse_117_ok {d : Nat} (hd : 1 ≤ d) {v1 : Int32} {σ : Sg} {r : Int32} {σ2 : Sg} (h : m_refuse_117 v1 σ = some (r, σ2)) : Ev MT CT d 120 [.ref 117, .int v1] σ (fun v s => v = some (.int r) ∧ s = σ2) := by
  obtain ⟨d, rfl⟩ : ∃ e, d = e + 1 := ⟨d - 1, by omega⟩
  refine ⟨Nat.le_of_ble_eq_true rfl, ?_⟩
  show Rc none (Ev MT CT d) sg120 (0, [(0, .ref 117), (1, .int v1)], [], σ) _
  unfold m_refuse_117 at h
  have hd : 0 ≤ d := by omega
  refine Rc.blk (c := []) (s2 := (if 6 < v1 then 16 else 6, [(0, .ref 117), (1, .int v1)], [], σ)) 0 rfl rfl (trivial) ?_
  by_cases c3 : 6 < v1
  · rw [if_pos c3] at h
    refine Rc.ifp c3 ?_
    refine Rc.pick [1] (lv2 := [(1, .int v1)]) rfl ?_
    exact m_refuse_117_b16_ok hd _ _ _ _ h
  · rw [if_neg c3] at h
    refine Rc.ifn c3 ?_
    obtain ⟨g1, h⟩ := gd_some h
    obtain ⟨g2, h⟩ := gd_some h
    refine Rc.blk (c := [_, _, _, _]) (s2 := (16, [(0, .ref 117), (1, .int v1)], [], si σ 120 v1.toNatClampNeg ((σ.1 120 v1.toNatClampNeg) + 1))) 1 rfl rfl (conj_c (rfl) (conj_c (⟨rfl, rfl⟩) (conj_c (⟨rfl, inB_in g1⟩) (conj_c (⟨rfl, inB_in g2⟩) (trivial))))) ?_
    refine Rc.pick [1] (lv2 := [(1, .int v1)]) rfl ?_
    exact m_refuse_117_b16_ok hd _ _ _ _ h
theorem m_letter_117_b26_ok {d : Nat} (hd : 1 ≤ d) (σ : Sg) (r : Int32) (σ2 : Sg) (h : m_letter_117_b26 σ = some (r, σ2)) : Rc none (Ev MT CT d) sg129 (26, [(0, .ref 117)], [], σ) (fun v s => v = some (.int r) ∧ s = σ2) := by
  unfold m_letter_117_b26 at h
  refine Rc.blk (c := []) (s2 := (29, [(0, .ref 117)], [.int 6, .ref 117], σ)) 6 rfl rfl (trivial) ?_
  obtain ⟨r1, σ1, hc, h⟩ := bd_some h
  refine Rc.call (Ev.mono d) (v := some (.int r1)) (as := [.ref 117, .int 6]) (r := []) 7 rfl rfl rfl rfl ⟨rfl, Nat.le_of_ble_eq_true rfl⟩ (m_refuse_117_ok (by omega) hc) ?_
  show Rc _ _ _ (32, [(0, .ref 117)], [.int r1], σ1) _
  obtain ⟨rfl, rfl⟩ := some_pair h
  exact Rc.ret 8 rfl rfl rfl trivial ⟨rfl, rfl⟩
theorem m_letter_117_ok {d : Nat} (hd : 2 ≤ d) {v1 : Int32} {σ : Sg} {r : Int32} {σ2 : Sg} (h : m_letter_117 v1 σ = some (r, σ2)) : Ev MT CT d 129 [.ref 117, .int v1] σ (fun v s => v = some (.int r) ∧ s = σ2) := by
  obtain ⟨d, rfl⟩ : ∃ e, d = e + 1 := ⟨d - 1, by omega⟩
  refine ⟨Nat.le_of_ble_eq_true rfl, ?_⟩
  show Rc none (Ev MT CT d) sg129 (0, [(0, .ref 117), (1, .int v1)], [], σ) _
  unfold m_letter_117 at h
  have hd : 1 ≤ d := by omega
  refine Rc.blk (c := []) (s2 := (if 0 ≤ v1 then 10 else 4, [(0, .ref 117), (1, .int v1)], [], σ)) 0 rfl rfl (trivial) ?_
  by_cases c5 : 0 ≤ v1
  · rw [if_pos c5] at h
    refine Rc.ifp c5 ?_
    refine Rc.blk (c := []) (s2 := (if 255 < v1 then 26 else 17, [(0, .ref 117), (1, .int v1)], [], σ)) 4 rfl rfl (trivial) ?_
    by_cases c3 : 255 < v1
    · rw [if_pos c3] at h
      refine Rc.ifp c3 ?_
      refine Rc.pick [0] (lv2 := [(0, .ref 117)]) rfl ?_
      exact m_letter_117_b26_ok hd _ _ _ h
    · rw [if_neg c3] at h
      refine Rc.ifn c3 ?_
      refine Rc.blk (c := [_]) (s2 := (if ¬ (σ.1 117 5) = 72 then 33 else 26, [(0, .ref 117), (1, .int v1)], [], σ)) 5 rfl rfl (conj_c (rfl) (trivial)) ?_
      by_cases c2 : (σ.1 117 5) = 72
      · rw [if_pos c2] at h
        refine Rc.ifn (fun q => q c2) ?_
        refine Rc.pick [0] (lv2 := [(0, .ref 117)]) rfl ?_
        exact m_letter_117_b26_ok hd _ _ _ h
      · rw [if_neg c2] at h
        refine Rc.ifp c2 ?_
        obtain ⟨g1, h⟩ := gd_some h
        refine Rc.blk (c := [_, _, _, _, _, _, _]) (s2 := (57, [(0, .ref 117), (1, .int v1)], [.int ((si (si σ 121 (σ.1 117 5).toNatClampNeg v1) 117 5 (((si σ 121 (σ.1 117 5).toNatClampNeg v1).1 117 5) + 1)).1 117 5)], si (si σ 121 (σ.1 117 5).toNatClampNeg v1) 117 5 (((si σ 121 (σ.1 117 5).toNatClampNeg v1).1 117 5) + 1))) 9 rfl rfl (conj_c (rfl) (conj_c (rfl) (conj_c (⟨rfl, inB_in g1⟩) (conj_c (rfl) (conj_c (rfl) (conj_c (rfl) (conj_c (rfl) (trivial)))))))) ?_
        obtain ⟨rfl, rfl⟩ := some_pair h
        exact Rc.ret 10 rfl rfl rfl trivial ⟨rfl, rfl⟩
  · rw [if_neg c5] at h
    refine Rc.ifn c5 ?_
    refine Rc.blk (c := []) (s2 := (6, [(0, .ref 117), (1, .int v1)], [.int 4, .ref 117], σ)) 1 rfl rfl (trivial) ?_
    obtain ⟨r4, σ4, hc, h⟩ := bd_some h
    refine Rc.call (Ev.mono d) (v := some (.int r4)) (as := [.ref 117, .int 4]) (r := []) 2 rfl rfl rfl rfl ⟨rfl, Nat.le_of_ble_eq_true rfl⟩ (m_refuse_117_ok (by omega) hc) ?_
    show Rc _ _ _ (9, [(0, .ref 117), (1, .int v1)], [.int r4], σ4) _
    obtain ⟨rfl, rfl⟩ := some_pair h
    exact Rc.ret 3 rfl rfl rfl trivial ⟨rfl, rfl⟩
theorem m_isIn_s_b18_ok {d : Nat} (hd : 0 ≤ d) (s0 : Int32) (σ : Sg) (r : Int32) (σ2 : Sg) (h : m_isIn_s_b18 s0 σ = some (r, σ2)) : Rc none (Ev MT CT d) sg117 (18, [], [.int s0], σ) (fun v s => v = some (.int r) ∧ s = σ2) := by
  unfold m_isIn_s_b18 at h
  obtain ⟨g, h⟩ := gd_some h
  obtain ⟨rfl, rfl⟩ := some_pair h
  exact Rc.ret 4 rfl rfl rfl (nbB_ok g) ⟨rfl, rfl⟩
theorem m_isIn_s_b17_ok {d : Nat} (hd : 0 ≤ d) (σ : Sg) (r : Int32) (σ2 : Sg) (h : m_isIn_s_b17 σ = some (r, σ2)) : Rc none (Ev MT CT d) sg117 (17, [], [], σ) (fun v s => v = some (.int r) ∧ s = σ2) := by
  unfold m_isIn_s_b17 at h
  refine Rc.blk (c := []) (s2 := (18, [], [.int 0], σ)) 3 rfl rfl (trivial) ?_
  exact m_isIn_s_b18_ok hd _ _ _ _ h
theorem m_isIn_s_ok {d : Nat} (hd : 1 ≤ d) {v0 : Int64} {v2 : Int64} {v4 : Int64} {σ : Sg} {r : Int32} {σ2 : Sg} (h : m_isIn_s v0 v2 v4 σ = some (r, σ2)) : Ev MT CT d 117 [.long v0, .long v2, .long v4] σ (fun v s => v = some (.int r) ∧ s = σ2) := by
  obtain ⟨d, rfl⟩ : ∃ e, d = e + 1 := ⟨d - 1, by omega⟩
  refine ⟨Nat.le_of_ble_eq_true rfl, ?_⟩
  show Rc none (Ev MT CT d) sg117 (0, [(0, .long v0), (2, .long v2), (4, .long v4)], [], σ) _
  unfold m_isIn_s at h
  have hd : 0 ≤ d := by omega
  refine Rc.blk (c := []) (s2 := (if (lg_cmp v0 v2) < 0 then 17 else 6, [(0, .long v0), (2, .long v2), (4, .long v4)], [], σ)) 0 rfl rfl (trivial) ?_
  by_cases c2 : (lg_cmp v0 v2) < 0
  · rw [if_pos c2] at h
    refine Rc.ifp c2 ?_
    refine Rc.pick [] (lv2 := []) rfl ?_
    exact m_isIn_s_b17_ok hd _ _ _ h
  · rw [if_neg c2] at h
    refine Rc.ifn c2 ?_
    refine Rc.blk (c := []) (s2 := (if 0 < (lg_cmp v0 v4) then 17 else 13, [(0, .long v0), (2, .long v2), (4, .long v4)], [], σ)) 1 rfl rfl (trivial) ?_
    by_cases c1 : 0 < (lg_cmp v0 v4)
    · rw [if_pos c1] at h
      refine Rc.ifp c1 ?_
      refine Rc.pick [] (lv2 := []) rfl ?_
      exact m_isIn_s_b17_ok hd _ _ _ h
    · rw [if_neg c1] at h
      refine Rc.ifn c1 ?_
      refine Rc.blk (c := []) (s2 := (18, [(0, .long v0), (2, .long v2), (4, .long v4)], [.int 1], σ)) 2 rfl rfl (trivial) ?_
      refine Rc.pick [] (lv2 := []) rfl ?_
      exact m_isIn_s_b18_ok hd _ _ _ _ h
theorem m_quantity_117_H54_ok {d : Nat} (hd : 1 ≤ d) {k54 : Int32 → Int32 → Sg → Option (Int32 × Sg)} (hk54 : ∀ (v2 : Int32) (v3 : Int32) (σ : Sg) (r : Int32) (σ2 : Sg), k54 v2 v3 σ = some (r, σ2) → Rc none (Ev MT CT d) sg130 (54, [(0, .ref 117), (2, .int v2), (3, .int v3)], [], σ) (fun v s => v = some (.int r) ∧ s = σ2)) (v2 : Int32) (v3 : Int32) (σ : Sg) (r : Int32) (σ2 : Sg) (h : m_quantity_117_H54 k54 v2 v3 σ = some (r, σ2)) : Rc none (Ev MT CT d) sg130 (54, [(0, .ref 117), (2, .int v2), (3, .int v3)], [], σ) (fun v s => v = some (.int r) ∧ s = σ2) := by
  unfold m_quantity_117_H54 at h
  refine Rc.blk (c := []) (s2 := (if 5 ≤ v3 then 79 else 59, [(0, .ref 117), (2, .int v2), (3, .int v3)], [], σ)) 11 rfl rfl (trivial) ?_
  by_cases c4 : 5 ≤ v3
  · rw [if_pos c4] at h
    refine Rc.ifp c4 ?_
    obtain ⟨g1, h⟩ := gd_some h
    obtain ⟨g2, h⟩ := gd_some h
    refine Rc.blk (c := [_, _, _, _, _, _, _, _, _]) (s2 := (115, [(0, .ref 117), (2, .int v2), (3, .int v3)], [.int v2], si (si (si (si σ 118 (49 + v2).toNatClampNeg 0) 118 (57 + v2).toNatClampNeg 0) 118 0 (((si (si σ 118 (49 + v2).toNatClampNeg 0) 118 (57 + v2).toNatClampNeg 0).1 118 0) + 1)) 117 7 0)) 13 rfl rfl (conj_c (rfl) (conj_c (⟨rfl, inB_in g1⟩) (conj_c (rfl) (conj_c (⟨rfl, inB_in g2⟩) (conj_c (rfl) (conj_c (⟨rfl, rfl⟩) (conj_c (⟨rfl, inB_in (by decide)⟩) (conj_c (⟨rfl, inB_in (by decide)⟩) (conj_c (rfl) (trivial)))))))))) ?_
    obtain ⟨rfl, rfl⟩ := some_pair h
    exact Rc.ret 14 rfl rfl rfl trivial ⟨rfl, rfl⟩
  · rw [if_neg c4] at h
    refine Rc.ifn c4 ?_
    obtain ⟨g3, h⟩ := gd_some h
    refine Rc.blk (c := [_, _]) (s2 := (54, [(3, .int (v3 + 1)), (0, .ref 117), (2, .int v2)], [], si σ 118 ((9 + (5 * v2)) + v3).toNatClampNeg 0)) 12 rfl rfl (conj_c (rfl) (conj_c (⟨rfl, inB_in g3⟩) (trivial))) ?_
    refine Rc.pick [1, 2, 0] (lv2 := [(0, .ref 117), (2, .int v2), (3, .int (v3 + 1))]) rfl ?_
    exact hk54 _ _ _ _ _ h
theorem m_quantity_117_L54_ok {d : Nat} (hd : 1 ≤ d) : ∀ (n : Nat) (v2 : Int32) (v3 : Int32) (σ : Sg) (r : Int32) (σ2 : Sg), m_quantity_117_L54 n v2 v3 σ = some (r, σ2) → Rc none (Ev MT CT d) sg130 (54, [(0, .ref 117), (2, .int v2), (3, .int v3)], [], σ) (fun v s => v = some (.int r) ∧ s = σ2)
  | 0, _, _, _, _, _, h => by cases h
  | n + 1, v2, v3, σ, r, σ2, h => m_quantity_117_H54_ok hd (m_quantity_117_L54_ok hd n) v2 v3 σ r σ2 h
theorem m_quantity_117_ok {d : Nat} (hd : 2 ≤ d) {v1 : Int32} {σ : Sg} {r : Int32} {σ2 : Sg} (h : m_quantity_117 v1 σ = some (r, σ2)) : Ev MT CT d 130 [.ref 117, .int v1] σ (fun v s => v = some (.int r) ∧ s = σ2) := by
  obtain ⟨d, rfl⟩ : ∃ e, d = e + 1 := ⟨d - 1, by omega⟩
  refine ⟨Nat.le_of_ble_eq_true rfl, ?_⟩
  show Rc none (Ev MT CT d) sg130 (0, [(0, .ref 117), (1, .int v1)], [], σ) _
  unfold m_quantity_117 at h
  have hd : 1 ≤ d := by omega
  refine Rc.blk (c := []) (s2 := (6, [(0, .ref 117), (1, .int v1)], [.long 5, .long 0, .long v1.toInt64], σ)) 0 rfl rfl (trivial) ?_
  obtain ⟨r1, σ1, hc, h⟩ := bd_some h
  refine Rc.call (Ev.mono d) (v := some (.int r1)) (as := [.long v1.toInt64, .long 0, .long 5]) (r := []) 1 rfl rfl rfl rfl (Nat.le_of_ble_eq_true rfl) (m_isIn_s_ok (by omega) hc) ?_
  show Rc _ _ _ (9, [(0, .ref 117), (1, .int v1)], [.int r1], σ1) _
  refine Rc.blk (c := []) (s2 := (if ¬ r1 = 0 then 18 else 12, [(0, .ref 117), (1, .int v1)], [], σ1)) 2 rfl rfl (trivial) ?_
  by_cases c6 : r1 = 0
  · rw [if_pos c6] at h
    refine Rc.ifn (fun q => q c6) ?_
    refine Rc.blk (c := []) (s2 := (14, [(0, .ref 117), (1, .int v1)], [.int 2, .ref 117], σ1)) 3 rfl rfl (trivial) ?_
    obtain ⟨r5, σ5, hc, h⟩ := bd_some h
    refine Rc.call (Ev.mono d) (v := some (.int r5)) (as := [.ref 117, .int 2]) (r := []) 4 rfl rfl rfl rfl ⟨rfl, Nat.le_of_ble_eq_true rfl⟩ (m_refuse_117_ok (by omega) hc) ?_
    show Rc _ _ _ (17, [(0, .ref 117), (1, .int v1)], [.int r5], σ5) _
    obtain ⟨rfl, rfl⟩ := some_pair h
    exact Rc.ret 5 rfl rfl rfl trivial ⟨rfl, rfl⟩
  · rw [if_neg c6] at h
    refine Rc.ifp c6 ?_
    refine Rc.blk (c := [_, _]) (s2 := (if ¬ (σ1.1 118 0) = 8 then 36 else 29, [(0, .ref 117), (1, .int v1)], [], σ1)) 6 rfl rfl (conj_c (rfl) (conj_c (⟨rfl, inB_in (by decide)⟩) (trivial))) ?_
    by_cases c4 : (σ1.1 118 0) = 8
    · rw [if_pos c4] at h
      refine Rc.ifn (fun q => q c4) ?_
      refine Rc.blk (c := []) (s2 := (32, [(0, .ref 117), (1, .int v1)], [.int 6, .ref 117], σ1)) 7 rfl rfl (trivial) ?_
      obtain ⟨r3, σ3, hc, h⟩ := bd_some h
      refine Rc.call (Ev.mono d) (v := some (.int r3)) (as := [.ref 117, .int 6]) (r := []) 8 rfl rfl rfl rfl ⟨rfl, Nat.le_of_ble_eq_true rfl⟩ (m_refuse_117_ok (by omega) hc) ?_
      show Rc _ _ _ (35, [(0, .ref 117), (1, .int v1)], [.int r3], σ3) _
      obtain ⟨rfl, rfl⟩ := some_pair h
      exact Rc.ret 9 rfl rfl rfl trivial ⟨rfl, rfl⟩
    · rw [if_neg c4] at h
      refine Rc.ifp c4 ?_
      obtain ⟨g2, h⟩ := gd_some h
      refine Rc.blk (c := [_, _, _, _]) (s2 := (54, [(3, .int 0), (2, .int (σ1.1 118 0)), (0, .ref 117), (1, .int v1)], [], si σ1 118 (1 + (σ1.1 118 0)).toNatClampNeg v1)) 10 rfl rfl (conj_c (rfl) (conj_c (⟨rfl, inB_in (by decide)⟩) (conj_c (rfl) (conj_c (⟨rfl, inB_in g2⟩) (trivial))))) ?_
      refine Rc.pick [2, 1, 0] (lv2 := [(0, .ref 117), (2, .int (σ1.1 118 0)), (3, .int 0)]) rfl ?_
      exact m_quantity_117_L54_ok hd fu _ _ _ _ _ h
theorem m_changes_117_b105_ok {d : Nat} (hd : 0 ≤ d) (s1 : Int32) (s2 : Int32) (σ : Sg) (r : Unit) (σ2 : Sg) (h : m_changes_117_b105 s1 s2 σ = some (r, σ2)) : Rc none (Ev MT CT d) sg131 (105, [(0, .ref 117)], [.int s2, .int s1, .ref 122], σ) (fun v s => v = none ∧ s = σ2) := by
  unfold m_changes_117_b105 at h
  obtain ⟨g1, h⟩ := gd_some h
  refine Rc.blk (c := [_, _, _, _]) (s2 := (116, [(0, .ref 117)], [], si (si σ 122 s1.toNatClampNeg s2) 117 7 (((si σ 122 s1.toNatClampNeg s2).1 117 7) + 1))) 8 rfl rfl (conj_c (⟨rfl, inB_in g1⟩) (conj_c (rfl) (conj_c (rfl) (conj_c (rfl) (trivial))))) ?_
  obtain ⟨rfl, rfl⟩ := some_pair h
  exact Rc.ret 9 rfl rfl rfl trivial ⟨rfl, rfl⟩
theorem m_changes_117_b47_ok {d : Nat} (hd : 0 ≤ d) (v1 : Int32) (v2 : Int32) (σ : Sg) (r : Unit) (σ2 : Sg) (h : m_changes_117_b47 v1 v2 σ = some (r, σ2)) : Rc none (Ev MT CT d) sg131 (47, [(0, .ref 117), (1, .int v1), (2, .int v2)], [], σ) (fun v s => v = none ∧ s = σ2) := by
  unfold m_changes_117_b47 at h
  obtain ⟨g1, h⟩ := gd_some h
  obtain ⟨g2, h⟩ := gd_some h
  obtain ⟨g3, h⟩ := gd_some h
  obtain ⟨g4, h⟩ := gd_some h
  refine Rc.blk (c := [_, _, _, _, _, _, _, _, _, _]) (s2 := (if 0 ≤ v2 then 99 else 95, [(3, .int (5 * (σ.1 117 7))), (0, .ref 117), (1, .int v1), (2, .int v2)], [.int ((5 * (σ.1 117 7)) + 3), .ref 122], si (si (si σ 122 (5 * (σ.1 117 7)).toNatClampNeg v1) 122 ((5 * (σ.1 117 7)) + 1).toNatClampNeg ((si σ 122 (5 * (σ.1 117 7)).toNatClampNeg v1).1 118 v1.toNatClampNeg)) 122 ((5 * (σ.1 117 7)) + 2).toNatClampNeg v2)) 5 rfl rfl (conj_c (rfl) (conj_c (rfl) (conj_c (⟨rfl, inB_in g1⟩) (conj_c (rfl) (conj_c (rfl) (conj_c (⟨rfl, inB_in g2⟩) (conj_c (⟨rfl, inB_in g3⟩) (conj_c (rfl) (conj_c (⟨rfl, inB_in g4⟩) (conj_c (rfl) (trivial))))))))))) ?_
  by_cases c6 : 0 ≤ v2
  · rw [if_pos c6] at h
    refine Rc.ifp c6 ?_
    obtain ⟨g5, h⟩ := gd_some h
    refine Rc.blk (c := [_, _]) (s2 := (105, [(3, .int (5 * (σ.1 117 7))), (0, .ref 117), (1, .int v1), (2, .int v2)], [.int ((si (si (si σ 122 (5 * (σ.1 117 7)).toNatClampNeg v1) 122 ((5 * (σ.1 117 7)) + 1).toNatClampNeg ((si σ 122 (5 * (σ.1 117 7)).toNatClampNeg v1).1 118 v1.toNatClampNeg)) 122 ((5 * (σ.1 117 7)) + 2).toNatClampNeg v2).1 118 v2.toNatClampNeg), .int ((5 * (σ.1 117 7)) + 3), .ref 122], si (si (si σ 122 (5 * (σ.1 117 7)).toNatClampNeg v1) 122 ((5 * (σ.1 117 7)) + 1).toNatClampNeg ((si σ 122 (5 * (σ.1 117 7)).toNatClampNeg v1).1 118 v1.toNatClampNeg)) 122 ((5 * (σ.1 117 7)) + 2).toNatClampNeg v2)) 7 rfl rfl (conj_c (rfl) (conj_c (⟨rfl, inB_in g5⟩) (trivial))) ?_
    refine Rc.pick [1] (lv2 := [(0, .ref 117)]) rfl ?_
    exact m_changes_117_b105_ok hd _ _ _ _ _ h
  · rw [if_neg c6] at h
    refine Rc.ifn c6 ?_
    refine Rc.blk (c := []) (s2 := (105, [(3, .int (5 * (σ.1 117 7))), (0, .ref 117), (1, .int v1), (2, .int v2)], [.int 0, .int ((5 * (σ.1 117 7)) + 3), .ref 122], si (si (si σ 122 (5 * (σ.1 117 7)).toNatClampNeg v1) 122 ((5 * (σ.1 117 7)) + 1).toNatClampNeg ((si σ 122 (5 * (σ.1 117 7)).toNatClampNeg v1).1 118 v1.toNatClampNeg)) 122 ((5 * (σ.1 117 7)) + 2).toNatClampNeg v2)) 6 rfl rfl (trivial) ?_
    refine Rc.pick [1] (lv2 := [(0, .ref 117)]) rfl ?_
    exact m_changes_117_b105_ok hd _ _ _ _ _ h
theorem m_changes_117_H11_ok {d : Nat} (hd : 0 ≤ d) {k11 : Int32 → Int32 → Int32 → Sg → Option (Unit × Sg)} (hk11 : ∀ (v1 : Int32) (v2 : Int32) (v3 : Int32) (σ : Sg) (r : Unit) (σ2 : Sg), k11 v1 v2 v3 σ = some (r, σ2) → Rc none (Ev MT CT d) sg131 (11, [(0, .ref 117), (1, .int v1), (2, .int v2), (3, .int v3)], [], σ) (fun v s => v = none ∧ s = σ2)) (v1 : Int32) (v2 : Int32) (v3 : Int32) (σ : Sg) (r : Unit) (σ2 : Sg) (h : m_changes_117_H11 k11 v1 v2 v3 σ = some (r, σ2)) : Rc none (Ev MT CT d) sg131 (11, [(0, .ref 117), (1, .int v1), (2, .int v2), (3, .int v3)], [], σ) (fun v s => v = none ∧ s = σ2) := by
  unfold m_changes_117_H11 at h
  refine Rc.blk (c := []) (s2 := (if 100 ≤ v3 then 37 else 17, [(0, .ref 117), (1, .int v1), (2, .int v2), (3, .int v3)], [], σ)) 2 rfl rfl (trivial) ?_
  by_cases c3 : 100 ≤ v3
  · rw [if_pos c3] at h
    refine Rc.ifp c3 ?_
    refine Rc.blk (c := [_, _, _]) (s2 := (47, [(0, .ref 117), (1, .int v1), (2, .int v2), (3, .int v3)], [], si σ 117 7 ((σ.1 117 7) - 1))) 4 rfl rfl (conj_c (rfl) (conj_c (rfl) (conj_c (rfl) (trivial)))) ?_
    refine Rc.pick [0, 1, 2] (lv2 := [(0, .ref 117), (1, .int v1), (2, .int v2)]) rfl ?_
    exact m_changes_117_b47_ok hd _ _ _ _ _ h
  · rw [if_neg c3] at h
    refine Rc.ifn c3 ?_
    obtain ⟨g1, h⟩ := gd_some h
    obtain ⟨g2, h⟩ := gd_some h
    refine Rc.blk (c := [_, _, _, _]) (s2 := (11, [(3, .int (v3 + 1)), (0, .ref 117), (1, .int v1), (2, .int v2)], [], si σ 122 (v3 - 5).toNatClampNeg (σ.1 122 v3.toNatClampNeg))) 3 rfl rfl (conj_c (rfl) (conj_c (rfl) (conj_c (⟨rfl, inB_in g1⟩) (conj_c (⟨rfl, inB_in g2⟩) (trivial))))) ?_
    refine Rc.pick [1, 2, 3, 0] (lv2 := [(0, .ref 117), (1, .int v1), (2, .int v2), (3, .int (v3 + 1))]) rfl ?_
    exact hk11 _ _ _ _ _ _ h
theorem m_changes_117_L11_ok {d : Nat} (hd : 0 ≤ d) : ∀ (n : Nat) (v1 : Int32) (v2 : Int32) (v3 : Int32) (σ : Sg) (r : Unit) (σ2 : Sg), m_changes_117_L11 n v1 v2 v3 σ = some (r, σ2) → Rc none (Ev MT CT d) sg131 (11, [(0, .ref 117), (1, .int v1), (2, .int v2), (3, .int v3)], [], σ) (fun v s => v = none ∧ s = σ2)
  | 0, _, _, _, _, _, _, h => by cases h
  | n + 1, v1, v2, v3, σ, r, σ2, h => m_changes_117_H11_ok hd (m_changes_117_L11_ok hd n) v1 v2 v3 σ r σ2 h
theorem m_changes_117_ok {d : Nat} (hd : 1 ≤ d) {v1 : Int32} {v2 : Int32} {σ : Sg} {r : Unit} {σ2 : Sg} (h : m_changes_117 v1 v2 σ = some (r, σ2)) : Ev MT CT d 131 [.ref 117, .int v1, .int v2] σ (fun v s => v = none ∧ s = σ2) := by
  obtain ⟨d, rfl⟩ : ∃ e, d = e + 1 := ⟨d - 1, by omega⟩
  refine ⟨Nat.le_of_ble_eq_true rfl, ?_⟩
  show Rc none (Ev MT CT d) sg131 (0, [(0, .ref 117), (1, .int v1), (2, .int v2)], [], σ) _
  unfold m_changes_117 at h
  have hd : 0 ≤ d := by omega
  refine Rc.blk (c := [_]) (s2 := (if ¬ (σ.1 117 7) = 20 then 47 else 9, [(0, .ref 117), (1, .int v1), (2, .int v2)], [], σ)) 0 rfl rfl (conj_c (rfl) (trivial)) ?_
  by_cases c1 : (σ.1 117 7) = 20
  · rw [if_pos c1] at h
    refine Rc.ifn (fun q => q c1) ?_
    refine Rc.blk (c := []) (s2 := (11, [(3, .int 5), (0, .ref 117), (1, .int v1), (2, .int v2)], [], σ)) 1 rfl rfl (trivial) ?_
    refine Rc.pick [1, 2, 3, 0] (lv2 := [(0, .ref 117), (1, .int v1), (2, .int v2), (3, .int 5)]) rfl ?_
    exact m_changes_117_L11_ok hd fu _ _ _ _ _ _ h
  · rw [if_neg c1] at h
    refine Rc.ifp c1 ?_
    exact m_changes_117_b47_ok hd _ _ _ _ _ h
theorem m_isOne_117_ok {d : Nat} (hd : 2 ≤ d) {v1 : Int32} {σ : Sg} {r : Int32} {σ2 : Sg} (h : m_isOne_117 v1 σ = some (r, σ2)) : Ev MT CT d 125 [.ref 117, .int v1] σ (fun v s => v = some (.int r) ∧ s = σ2) := by
  obtain ⟨d, rfl⟩ : ∃ e, d = e + 1 := ⟨d - 1, by omega⟩
  refine ⟨Nat.le_of_ble_eq_true rfl, ?_⟩
  show Rc none (Ev MT CT d) sg125 (0, [(0, .ref 117), (1, .int v1)], [], σ) _
  unfold m_isOne_117 at h
  have hd : 1 ≤ d := by omega
  refine Rc.blk (c := [_, _]) (s2 := (12, [(0, .ref 117), (1, .int v1)], [.long (((σ.1 118 0) - 1).toInt64), .long 0, .long v1.toInt64], σ)) 0 rfl rfl (conj_c (rfl) (conj_c (⟨rfl, inB_in (by decide)⟩) (trivial))) ?_
  obtain ⟨r1, σ1, hc, h⟩ := bd_some h
  refine Rc.call (Ev.mono d) (v := some (.int r1)) (as := [.long v1.toInt64, .long 0, .long (((σ.1 118 0) - 1).toInt64)]) (r := []) 1 rfl rfl rfl rfl (Nat.le_of_ble_eq_true rfl) (m_isIn_s_ok (by omega) hc) ?_
  show Rc _ _ _ (15, [(0, .ref 117), (1, .int v1)], [.int r1], σ1) _
  obtain ⟨g, h⟩ := gd_some h
  obtain ⟨rfl, rfl⟩ := some_pair h
  exact Rc.ret 2 rfl rfl rfl (nbB_ok g) ⟨rfl, rfl⟩
theorem m_isUnit_s_ok {d : Nat} (hd : 2 ≤ d) {v0 : Int32} {σ : Sg} {r : Int32} {σ2 : Sg} (h : m_isUnit_s v0 σ = some (r, σ2)) : Ev MT CT d 126 [.int v0] σ (fun v s => v = some (.int r) ∧ s = σ2) := by
  obtain ⟨d, rfl⟩ : ∃ e, d = e + 1 := ⟨d - 1, by omega⟩
  refine ⟨Nat.le_of_ble_eq_true rfl, ?_⟩
  show Rc none (Ev MT CT d) sg126 (0, [(0, .int v0)], [], σ) _
  unfold m_isUnit_s at h
  have hd : 1 ≤ d := by omega
  refine Rc.blk (c := []) (s2 := (6, [(0, .int v0)], [.long 4, .long 0, .long v0.toInt64], σ)) 0 rfl rfl (trivial) ?_
  obtain ⟨r1, σ1, hc, h⟩ := bd_some h
  refine Rc.call (Ev.mono d) (v := some (.int r1)) (as := [.long v0.toInt64, .long 0, .long 4]) (r := []) 1 rfl rfl rfl rfl (Nat.le_of_ble_eq_true rfl) (m_isIn_s_ok (by omega) hc) ?_
  show Rc _ _ _ (9, [(0, .int v0)], [.int r1], σ1) _
  obtain ⟨g, h⟩ := gd_some h
  obtain ⟨rfl, rfl⟩ := some_pair h
  exact Rc.ret 2 rfl rfl rfl (nbB_ok g) ⟨rfl, rfl⟩
theorem m_refuseFar_117_ok {d : Nat} (hd : 2 ≤ d) {v1 : Int32} {σ : Sg} {r : Int32} {σ2 : Sg} (h : m_refuseFar_117 v1 σ = some (r, σ2)) : Ev MT CT d 121 [.ref 117, .int v1] σ (fun v s => v = some (.int r) ∧ s = σ2) := by
  obtain ⟨d, rfl⟩ : ∃ e, d = e + 1 := ⟨d - 1, by omega⟩
  refine ⟨Nat.le_of_ble_eq_true rfl, ?_⟩
  show Rc none (Ev MT CT d) sg121 (0, [(0, .ref 117), (1, .int v1)], [], σ) _
  unfold m_refuseFar_117 at h
  have hd : 1 ≤ d := by omega
  refine Rc.blk (c := []) (s2 := (4, [(0, .ref 117), (1, .int v1)], [.int v1, .ref 117, .int 1000000000], σ)) 0 rfl rfl (trivial) ?_
  obtain ⟨r1, σ1, hc, h⟩ := bd_some h
  refine Rc.call (Ev.mono d) (v := some (.int r1)) (as := [.ref 117, .int v1]) (r := [.int 1000000000]) 1 rfl rfl rfl rfl ⟨rfl, Nat.le_of_ble_eq_true rfl⟩ (m_refuse_117_ok (by omega) hc) ?_
  show Rc _ _ _ (7, [(0, .ref 117), (1, .int v1)], [.int r1, .int 1000000000], σ1) _
  refine Rc.blk (c := []) (s2 := (8, [(0, .ref 117), (1, .int v1)], [.int (1000000000 - r1)], σ1)) 2 rfl rfl (trivial) ?_
  obtain ⟨rfl, rfl⟩ := some_pair h
  exact Rc.ret 3 rfl rfl rfl trivial ⟨rfl, rfl⟩
theorem m_tell_117_b15_ok {d : Nat} (hd : 2 ≤ d) (σ : Sg) (r : Int32) (σ2 : Sg) (h : m_tell_117_b15 σ = some (r, σ2)) : Rc none (Ev MT CT d) sg132 (15, [(0, .ref 117)], [], σ) (fun v s => v = some (.int r) ∧ s = σ2) := by
  unfold m_tell_117_b15 at h
  refine Rc.blk (c := []) (s2 := (17, [(0, .ref 117)], [.int 1, .ref 117], σ)) 6 rfl rfl (trivial) ?_
  obtain ⟨r1, σ1, hc, h⟩ := bd_some h
  refine Rc.call (Ev.mono d) (v := some (.int r1)) (as := [.ref 117, .int 1]) (r := []) 7 rfl rfl rfl rfl ⟨rfl, Nat.le_of_ble_eq_true rfl⟩ (m_refuseFar_117_ok (by omega) hc) ?_
  show Rc _ _ _ (20, [(0, .ref 117)], [.int r1], σ1) _
  obtain ⟨rfl, rfl⟩ := some_pair h
  exact Rc.ret 8 rfl rfl rfl trivial ⟨rfl, rfl⟩
theorem m_tell_117_ok {d : Nat} (hd : 3 ≤ d) {v1 : Int32} {v2 : Int32} {v3 : Int32} {σ : Sg} {r : Int32} {σ2 : Sg} (h : m_tell_117 v1 v2 v3 σ = some (r, σ2)) : Ev MT CT d 132 [.ref 117, .int v1, .int v2, .int v3] σ (fun v s => v = some (.int r) ∧ s = σ2) := by
  obtain ⟨d, rfl⟩ : ∃ e, d = e + 1 := ⟨d - 1, by omega⟩
  refine ⟨Nat.le_of_ble_eq_true rfl, ?_⟩
  show Rc none (Ev MT CT d) sg132 (0, [(0, .ref 117), (1, .int v1), (2, .int v2), (3, .int v3)], [], σ) _
  unfold m_tell_117 at h
  have hd : 2 ≤ d := by omega
  refine Rc.blk (c := []) (s2 := (2, [(0, .ref 117), (1, .int v1), (2, .int v2), (3, .int v3)], [.int v1, .ref 117], σ)) 0 rfl rfl (trivial) ?_
  obtain ⟨r1, σ1, hc, h⟩ := bd_some h
  refine Rc.call (Ev.mono d) (v := some (.int r1)) (as := [.ref 117, .int v1]) (r := []) 1 rfl rfl rfl rfl ⟨rfl, Nat.le_of_ble_eq_true rfl⟩ (m_isOne_117_ok (by omega) hc) ?_
  show Rc _ _ _ (5, [(0, .ref 117), (1, .int v1), (2, .int v2), (3, .int v3)], [.int r1], σ1) _
  refine Rc.blk (c := []) (s2 := (if r1 = 0 then 15 else 8, [(0, .ref 117), (1, .int v1), (2, .int v2), (3, .int v3)], [], σ1)) 2 rfl rfl (trivial) ?_
  by_cases c11 : r1 = 0
  · rw [if_pos c11] at h
    refine Rc.ifp c11 ?_
    refine Rc.pick [0] (lv2 := [(0, .ref 117)]) rfl ?_
    exact m_tell_117_b15_ok hd _ _ _ h
  · rw [if_neg c11] at h
    refine Rc.ifn c11 ?_
    refine Rc.blk (c := []) (s2 := (9, [(0, .ref 117), (1, .int v1), (2, .int v2), (3, .int v3)], [.int v2], σ1)) 3 rfl rfl (trivial) ?_
    obtain ⟨r2, σ2, hc, h⟩ := bd_some h
    refine Rc.call (Ev.mono d) (v := some (.int r2)) (as := [.int v2]) (r := []) 4 rfl rfl rfl rfl (Nat.le_of_ble_eq_true rfl) (m_isUnit_s_ok (by omega) hc) ?_
    show Rc _ _ _ (12, [(0, .ref 117), (1, .int v1), (2, .int v2), (3, .int v3)], [.int r2], σ2) _
    refine Rc.blk (c := []) (s2 := (if ¬ r2 = 0 then 21 else 15, [(0, .ref 117), (1, .int v1), (2, .int v2), (3, .int v3)], [], σ2)) 5 rfl rfl (trivial) ?_
    by_cases c10 : r2 = 0
    · rw [if_pos c10] at h
      refine Rc.ifn (fun q => q c10) ?_
      refine Rc.pick [0] (lv2 := [(0, .ref 117)]) rfl ?_
      exact m_tell_117_b15_ok hd _ _ _ h
    · rw [if_neg c10] at h
      refine Rc.ifp c10 ?_
      refine Rc.blk (c := []) (s2 := (if (-9) ≤ v3 then 33 else 27, [(0, .ref 117), (1, .int v1), (2, .int v2), (3, .int v3)], [], σ2)) 9 rfl rfl (trivial) ?_
      by_cases c9 : (-9) ≤ v3
      · rw [if_pos c9] at h
        refine Rc.ifp c9 ?_
        refine Rc.blk (c := []) (s2 := (if v3 ≤ 9 then 46 else 39, [(0, .ref 117), (1, .int v1), (2, .int v2), (3, .int v3)], [], σ2)) 13 rfl rfl (trivial) ?_
        by_cases c7 : v3 ≤ 9
        · rw [if_pos c7] at h
          refine Rc.ifp c7 ?_
          obtain ⟨g3, h⟩ := gd_some h
          refine Rc.blk (c := [_, _]) (s2 := (69, [(5, .int (σ2.1 118 ((9 + (5 * v1)) + v2).toNatClampNeg)), (4, .int ((9 + (5 * v1)) + v2)), (0, .ref 117), (1, .int v1), (2, .int v2), (3, .int v3)], [.int (-1), .int ((9 + (5 * v1)) + v2), .ref 117], σ2)) 17 rfl rfl (conj_c (rfl) (conj_c (⟨rfl, inB_in g3⟩) (trivial))) ?_
          obtain ⟨r4, σ4, hc, h⟩ := bd_some h
          refine Rc.call (Ev.mono d) (v := none) (as := [.ref 117, .int ((9 + (5 * v1)) + v2), .int (-1)]) (r := []) 18 rfl rfl rfl rfl ⟨rfl, Nat.le_of_ble_eq_true rfl⟩ (m_changes_117_ok (by omega) hc) ?_
          show Rc _ _ _ (72, [(5, .int (σ2.1 118 ((9 + (5 * v1)) + v2).toNatClampNeg)), (4, .int ((9 + (5 * v1)) + v2)), (0, .ref 117), (1, .int v1), (2, .int v2), (3, .int v3)], [], σ4) _
          obtain ⟨g5, h⟩ := gd_some h
          refine Rc.blk (c := [_, _]) (s2 := (82, [(5, .int (σ2.1 118 ((9 + (5 * v1)) + v2).toNatClampNeg)), (4, .int ((9 + (5 * v1)) + v2)), (0, .ref 117), (1, .int v1), (2, .int v2), (3, .int v3)], [.int (σ2.1 118 ((9 + (5 * v1)) + v2).toNatClampNeg)], si σ4 118 ((9 + (5 * v1)) + v2).toNatClampNeg v3)) 19 rfl rfl (conj_c (rfl) (conj_c (⟨rfl, inB_in g5⟩) (trivial))) ?_
          obtain ⟨rfl, rfl⟩ := some_pair h
          exact Rc.ret 20 rfl rfl rfl trivial ⟨rfl, rfl⟩
        · rw [if_neg c7] at h
          refine Rc.ifn c7 ?_
          refine Rc.blk (c := []) (s2 := (42, [(0, .ref 117), (1, .int v1), (2, .int v2), (3, .int v3)], [.int 6, .ref 117], σ2)) 14 rfl rfl (trivial) ?_
          obtain ⟨r6, σ6, hc, h⟩ := bd_some h
          refine Rc.call (Ev.mono d) (v := some (.int r6)) (as := [.ref 117, .int 6]) (r := []) 15 rfl rfl rfl rfl ⟨rfl, Nat.le_of_ble_eq_true rfl⟩ (m_refuseFar_117_ok (by omega) hc) ?_
          show Rc _ _ _ (45, [(0, .ref 117), (1, .int v1), (2, .int v2), (3, .int v3)], [.int r6], σ6) _
          obtain ⟨rfl, rfl⟩ := some_pair h
          exact Rc.ret 16 rfl rfl rfl trivial ⟨rfl, rfl⟩
      · rw [if_neg c9] at h
        refine Rc.ifn c9 ?_
        refine Rc.blk (c := []) (s2 := (29, [(0, .ref 117), (1, .int v1), (2, .int v2), (3, .int v3)], [.int 4, .ref 117], σ2)) 10 rfl rfl (trivial) ?_
        obtain ⟨r8, σ8, hc, h⟩ := bd_some h
        refine Rc.call (Ev.mono d) (v := some (.int r8)) (as := [.ref 117, .int 4]) (r := []) 11 rfl rfl rfl rfl ⟨rfl, Nat.le_of_ble_eq_true rfl⟩ (m_refuseFar_117_ok (by omega) hc) ?_
        show Rc _ _ _ (32, [(0, .ref 117), (1, .int v1), (2, .int v2), (3, .int v3)], [.int r8], σ8) _
        obtain ⟨rfl, rfl⟩ := some_pair h
        exact Rc.ret 12 rfl rfl rfl trivial ⟨rfl, rfl⟩
theorem m_turn_117_ok {d : Nat} (hd : 3 ≤ d) {v1 : Int32} {v2 : Int32} {σ : Sg} {r : Int32} {σ2 : Sg} (h : m_turn_117 v1 v2 σ = some (r, σ2)) : Ev MT CT d 133 [.ref 117, .int v1, .int v2] σ (fun v s => v = some (.int r) ∧ s = σ2) := by
  obtain ⟨d, rfl⟩ : ∃ e, d = e + 1 := ⟨d - 1, by omega⟩
  refine ⟨Nat.le_of_ble_eq_true rfl, ?_⟩
  show Rc none (Ev MT CT d) sg133 (0, [(0, .ref 117), (1, .int v1), (2, .int v2)], [], σ) _
  unfold m_turn_117 at h
  have hd : 2 ≤ d := by omega
  refine Rc.blk (c := []) (s2 := (2, [(0, .ref 117), (1, .int v1), (2, .int v2)], [.int v1, .ref 117], σ)) 0 rfl rfl (trivial) ?_
  obtain ⟨r1, σ1, hc, h⟩ := bd_some h
  refine Rc.call (Ev.mono d) (v := some (.int r1)) (as := [.ref 117, .int v1]) (r := []) 1 rfl rfl rfl rfl ⟨rfl, Nat.le_of_ble_eq_true rfl⟩ (m_isOne_117_ok (by omega) hc) ?_
  show Rc _ _ _ (5, [(0, .ref 117), (1, .int v1), (2, .int v2)], [.int r1], σ1) _
  refine Rc.blk (c := []) (s2 := (if ¬ r1 = 0 then 14 else 8, [(0, .ref 117), (1, .int v1), (2, .int v2)], [], σ1)) 2 rfl rfl (trivial) ?_
  by_cases c9 : r1 = 0
  · rw [if_pos c9] at h
    refine Rc.ifn (fun q => q c9) ?_
    refine Rc.blk (c := []) (s2 := (10, [(0, .ref 117), (1, .int v1), (2, .int v2)], [.int 1, .ref 117], σ1)) 3 rfl rfl (trivial) ?_
    obtain ⟨r8, σ8, hc, h⟩ := bd_some h
    refine Rc.call (Ev.mono d) (v := some (.int r8)) (as := [.ref 117, .int 1]) (r := []) 4 rfl rfl rfl rfl ⟨rfl, Nat.le_of_ble_eq_true rfl⟩ (m_refuse_117_ok (by omega) hc) ?_
    show Rc _ _ _ (13, [(0, .ref 117), (1, .int v1), (2, .int v2)], [.int r8], σ8) _
    obtain ⟨rfl, rfl⟩ := some_pair h
    exact Rc.ret 5 rfl rfl rfl trivial ⟨rfl, rfl⟩
  · rw [if_neg c9] at h
    refine Rc.ifp c9 ?_
    refine Rc.blk (c := []) (s2 := (20, [(0, .ref 117), (1, .int v1), (2, .int v2)], [.long 5, .long 0, .long v2.toInt64], σ1)) 6 rfl rfl (trivial) ?_
    obtain ⟨r2, σ2, hc, h⟩ := bd_some h
    refine Rc.call (Ev.mono d) (v := some (.int r2)) (as := [.long v2.toInt64, .long 0, .long 5]) (r := []) 7 rfl rfl rfl rfl (Nat.le_of_ble_eq_true rfl) (m_isIn_s_ok (by omega) hc) ?_
    show Rc _ _ _ (23, [(0, .ref 117), (1, .int v1), (2, .int v2)], [.int r2], σ2) _
    refine Rc.blk (c := []) (s2 := (if ¬ r2 = 0 then 32 else 26, [(0, .ref 117), (1, .int v1), (2, .int v2)], [], σ2)) 8 rfl rfl (trivial) ?_
    by_cases c7 : r2 = 0
    · rw [if_pos c7] at h
      refine Rc.ifn (fun q => q c7) ?_
      refine Rc.blk (c := []) (s2 := (28, [(0, .ref 117), (1, .int v1), (2, .int v2)], [.int 2, .ref 117], σ2)) 9 rfl rfl (trivial) ?_
      obtain ⟨r6, σ6, hc, h⟩ := bd_some h
      refine Rc.call (Ev.mono d) (v := some (.int r6)) (as := [.ref 117, .int 2]) (r := []) 10 rfl rfl rfl rfl ⟨rfl, Nat.le_of_ble_eq_true rfl⟩ (m_refuse_117_ok (by omega) hc) ?_
      show Rc _ _ _ (31, [(0, .ref 117), (1, .int v1), (2, .int v2)], [.int r6], σ6) _
      obtain ⟨rfl, rfl⟩ := some_pair h
      exact Rc.ret 11 rfl rfl rfl trivial ⟨rfl, rfl⟩
    · rw [if_neg c7] at h
      refine Rc.ifp c7 ?_
      obtain ⟨g3, h⟩ := gd_some h
      refine Rc.blk (c := [_, _]) (s2 := (46, [(3, .int (σ2.1 118 (1 + v1).toNatClampNeg)), (0, .ref 117), (1, .int v1), (2, .int v2)], [.int (-1), .int (1 + v1), .ref 117], σ2)) 12 rfl rfl (conj_c (rfl) (conj_c (⟨rfl, inB_in g3⟩) (trivial))) ?_
      obtain ⟨r4, σ4, hc, h⟩ := bd_some h
      refine Rc.call (Ev.mono d) (v := none) (as := [.ref 117, .int (1 + v1), .int (-1)]) (r := []) 13 rfl rfl rfl rfl ⟨rfl, Nat.le_of_ble_eq_true rfl⟩ (m_changes_117_ok (by omega) hc) ?_
      show Rc _ _ _ (49, [(3, .int (σ2.1 118 (1 + v1).toNatClampNeg)), (0, .ref 117), (1, .int v1), (2, .int v2)], [], σ4) _
      obtain ⟨g5, h⟩ := gd_some h
      refine Rc.blk (c := [_, _]) (s2 := (59, [(3, .int (σ2.1 118 (1 + v1).toNatClampNeg)), (0, .ref 117), (1, .int v1), (2, .int v2)], [.int (σ2.1 118 (1 + v1).toNatClampNeg)], si σ4 118 (1 + v1).toNatClampNeg v2)) 14 rfl rfl (conj_c (rfl) (conj_c (⟨rfl, inB_in g5⟩) (trivial))) ?_
      obtain ⟨rfl, rfl⟩ := some_pair h
      exact Rc.ret 15 rfl rfl rfl trivial ⟨rfl, rfl⟩
theorem m_swapRows_117_b67_ok {d : Nat} (hd : 0 ≤ d) (σ : Sg) (r : Unit) (σ2 : Sg) (h : m_swapRows_117_b67 σ = some (r, σ2)) : Rc none (Ev MT CT d) sg142 (67, [], [], σ) (fun v s => v = none ∧ s = σ2) := by
  unfold m_swapRows_117_b67 at h
  obtain ⟨rfl, rfl⟩ := some_pair h
  exact Rc.ret 4 rfl rfl rfl trivial ⟨rfl, rfl⟩
theorem m_swapRows_117_H2_ok {d : Nat} (hd : 0 ≤ d) {k2 : Int32 → Int32 → Int32 → Sg → Option (Unit × Sg)} (hk2 : ∀ (v1 : Int32) (v2 : Int32) (v3 : Int32) (σ : Sg) (r : Unit) (σ2 : Sg), k2 v1 v2 v3 σ = some (r, σ2) → Rc none (Ev MT CT d) sg142 (2, [(0, .ref 117), (1, .int v1), (2, .int v2), (3, .int v3)], [], σ) (fun v s => v = none ∧ s = σ2)) (v1 : Int32) (v2 : Int32) (v3 : Int32) (σ : Sg) (r : Unit) (σ2 : Sg) (h : m_swapRows_117_H2 k2 v1 v2 v3 σ = some (r, σ2)) : Rc none (Ev MT CT d) sg142 (2, [(0, .ref 117), (1, .int v1), (2, .int v2), (3, .int v3)], [], σ) (fun v s => v = none ∧ s = σ2) := by
  unfold m_swapRows_117_H2 at h
  refine Rc.blk (c := []) (s2 := (if 9 ≤ v3 then 67 else 8, [(0, .ref 117), (1, .int v1), (2, .int v2), (3, .int v3)], [], σ)) 1 rfl rfl (trivial) ?_
  by_cases c6 : 9 ≤ v3
  · rw [if_pos c6] at h
    refine Rc.ifp c6 ?_
    refine Rc.pick [] (lv2 := []) rfl ?_
    exact m_swapRows_117_b67_ok hd _ _ _ h
  · rw [if_neg c6] at h
    refine Rc.ifn c6 ?_
    refine Rc.blk (c := []) (s2 := (if v1 = v2 then 67 else 13, [(0, .ref 117), (1, .int v1), (2, .int v2), (3, .int v3)], [], σ)) 2 rfl rfl (trivial) ?_
    by_cases c5 : v1 = v2
    · rw [if_pos c5] at h
      refine Rc.ifp c5 ?_
      refine Rc.pick [] (lv2 := []) rfl ?_
      exact m_swapRows_117_b67_ok hd _ _ _ h
    · rw [if_neg c5] at h
      refine Rc.ifn c5 ?_
      obtain ⟨g1, h⟩ := gd_some h
      obtain ⟨g2, h⟩ := gd_some h
      obtain ⟨g3, h⟩ := gd_some h
      obtain ⟨g4, h⟩ := gd_some h
      refine Rc.blk (c := [_, _, _, _, _, _, _, _]) (s2 := (2, [(3, .int (v3 + 1)), (4, .long (σ.2 123 ((9 * v1) + v3).toNatClampNeg)), (0, .ref 117), (1, .int v1), (2, .int v2)], [], sl (sl σ 123 ((9 * v1) + v3).toNatClampNeg (σ.2 123 ((9 * v2) + v3).toNatClampNeg)) 123 ((9 * v2) + v3).toNatClampNeg (σ.2 123 ((9 * v1) + v3).toNatClampNeg))) 3 rfl rfl (conj_c (rfl) (conj_c (⟨rfl, inB_in g1⟩) (conj_c (rfl) (conj_c (rfl) (conj_c (⟨rfl, inB_in g2⟩) (conj_c (⟨rfl, inB_in g3⟩) (conj_c (rfl) (conj_c (⟨rfl, inB_in g4⟩) (trivial))))))))) ?_
      refine Rc.pick [2, 3, 4, 0] (lv2 := [(0, .ref 117), (1, .int v1), (2, .int v2), (3, .int (v3 + 1))]) rfl ?_
      exact hk2 _ _ _ _ _ _ h
theorem m_swapRows_117_L2_ok {d : Nat} (hd : 0 ≤ d) : ∀ (n : Nat) (v1 : Int32) (v2 : Int32) (v3 : Int32) (σ : Sg) (r : Unit) (σ2 : Sg), m_swapRows_117_L2 n v1 v2 v3 σ = some (r, σ2) → Rc none (Ev MT CT d) sg142 (2, [(0, .ref 117), (1, .int v1), (2, .int v2), (3, .int v3)], [], σ) (fun v s => v = none ∧ s = σ2)
  | 0, _, _, _, _, _, _, h => by cases h
  | n + 1, v1, v2, v3, σ, r, σ2, h => m_swapRows_117_H2_ok hd (m_swapRows_117_L2_ok hd n) v1 v2 v3 σ r σ2 h
theorem m_swapRows_117_ok {d : Nat} (hd : 1 ≤ d) {v1 : Int32} {v2 : Int32} {σ : Sg} {r : Unit} {σ2 : Sg} (h : m_swapRows_117 v1 v2 σ = some (r, σ2)) : Ev MT CT d 142 [.ref 117, .int v1, .int v2] σ (fun v s => v = none ∧ s = σ2) := by
  obtain ⟨d, rfl⟩ : ∃ e, d = e + 1 := ⟨d - 1, by omega⟩
  refine ⟨Nat.le_of_ble_eq_true rfl, ?_⟩
  show Rc none (Ev MT CT d) sg142 (0, [(0, .ref 117), (1, .int v1), (2, .int v2)], [], σ) _
  unfold m_swapRows_117 at h
  have hd : 0 ≤ d := by omega
  refine Rc.blk (c := []) (s2 := (2, [(3, .int 0), (0, .ref 117), (1, .int v1), (2, .int v2)], [], σ)) 0 rfl rfl (trivial) ?_
  refine Rc.pick [1, 2, 3, 0] (lv2 := [(0, .ref 117), (1, .int v1), (2, .int v2), (3, .int 0)]) rfl ?_
  exact m_swapRows_117_L2_ok hd fu _ _ _ _ _ _ h
theorem m_clears_117_b173_ok {d : Nat} (hd : 1 ≤ d) {k5 : Int32 → Int32 → Int64 → Int32 → Sg → Option (Int64 × Sg)} {k79 : Int32 → Int32 → Int64 → Int32 → Int64 → Int32 → Sg → Option (Int64 × Sg)} (hk5 : ∀ (v1 : Int32) (v2 : Int32) (v3 : Int64) (v5 : Int32) (σ : Sg) (r : Int64) (σ2 : Sg), k5 v1 v2 v3 v5 σ = some (r, σ2) → Rc none (Ev MT CT d) sg143 (5, [(0, .ref 117), (1, .int v1), (2, .int v2), (3, .long v3), (5, .int v5)], [], σ) (fun v s => v = some (.long r) ∧ s = σ2)) (hk79 : ∀ (v1 : Int32) (v2 : Int32) (v3 : Int64) (v5 : Int32) (v7 : Int64) (v9 : Int32) (σ : Sg) (r : Int64) (σ2 : Sg), k79 v1 v2 v3 v5 v7 v9 σ = some (r, σ2) → Rc none (Ev MT CT d) sg143 (79, [(0, .ref 117), (1, .int v1), (2, .int v2), (3, .long v3), (5, .int v5), (7, .long v7), (9, .int v9)], [], σ) (fun v s => v = some (.long r) ∧ s = σ2)) (v1 : Int32) (v2 : Int32) (v3 : Int64) (v5 : Int32) (v7 : Int64) (v9 : Int32) (σ : Sg) (r : Int64) (σ2 : Sg) (h : m_clears_117_b173 k5 k79 v1 v2 v3 v5 v7 v9 σ = some (r, σ2)) : Rc none (Ev MT CT d) sg143 (173, [(0, .ref 117), (1, .int v1), (2, .int v2), (3, .long v3), (5, .int v5), (7, .long v7), (9, .int v9)], [], σ) (fun v s => v = some (.long r) ∧ s = σ2) := by
  unfold m_clears_117_b173 at h
  refine Rc.blk (c := []) (s2 := (79, [(9, .int (v9 + 1)), (0, .ref 117), (1, .int v1), (2, .int v2), (3, .long v3), (5, .int v5), (7, .long v7)], [], σ)) 18 rfl rfl (trivial) ?_
  refine Rc.pick [1, 2, 3, 4, 5, 6, 0] (lv2 := [(0, .ref 117), (1, .int v1), (2, .int v2), (3, .long v3), (5, .int v5), (7, .long v7), (9, .int (v9 + 1))]) rfl ?_
  exact hk79 _ _ _ _ _ _ _ _ _ h
theorem m_clears_117_H113_ok {d : Nat} (hd : 1 ≤ d) {k5 : Int32 → Int32 → Int64 → Int32 → Sg → Option (Int64 × Sg)} {k79 : Int32 → Int32 → Int64 → Int32 → Int64 → Int32 → Sg → Option (Int64 × Sg)} {k113 : Int32 → Int32 → Int64 → Int32 → Int64 → Int32 → Int64 → Int32 → Sg → Option (Int64 × Sg)} (hk5 : ∀ (v1 : Int32) (v2 : Int32) (v3 : Int64) (v5 : Int32) (σ : Sg) (r : Int64) (σ2 : Sg), k5 v1 v2 v3 v5 σ = some (r, σ2) → Rc none (Ev MT CT d) sg143 (5, [(0, .ref 117), (1, .int v1), (2, .int v2), (3, .long v3), (5, .int v5)], [], σ) (fun v s => v = some (.long r) ∧ s = σ2)) (hk79 : ∀ (v1 : Int32) (v2 : Int32) (v3 : Int64) (v5 : Int32) (v7 : Int64) (v9 : Int32) (σ : Sg) (r : Int64) (σ2 : Sg), k79 v1 v2 v3 v5 v7 v9 σ = some (r, σ2) → Rc none (Ev MT CT d) sg143 (79, [(0, .ref 117), (1, .int v1), (2, .int v2), (3, .long v3), (5, .int v5), (7, .long v7), (9, .int v9)], [], σ) (fun v s => v = some (.long r) ∧ s = σ2)) (hk113 : ∀ (v1 : Int32) (v2 : Int32) (v3 : Int64) (v5 : Int32) (v7 : Int64) (v9 : Int32) (v10 : Int64) (v12 : Int32) (σ : Sg) (r : Int64) (σ2 : Sg), k113 v1 v2 v3 v5 v7 v9 v10 v12 σ = some (r, σ2) → Rc none (Ev MT CT d) sg143 (113, [(0, .ref 117), (1, .int v1), (2, .int v2), (3, .long v3), (5, .int v5), (7, .long v7), (9, .int v9), (10, .long v10), (12, .int v12)], [], σ) (fun v s => v = some (.long r) ∧ s = σ2)) (v1 : Int32) (v2 : Int32) (v3 : Int64) (v5 : Int32) (v7 : Int64) (v9 : Int32) (v10 : Int64) (v12 : Int32) (σ : Sg) (r : Int64) (σ2 : Sg) (h : m_clears_117_H113 k5 k79 k113 v1 v2 v3 v5 v7 v9 v10 v12 σ = some (r, σ2)) : Rc none (Ev MT CT d) sg143 (113, [(0, .ref 117), (1, .int v1), (2, .int v2), (3, .long v3), (5, .int v5), (7, .long v7), (9, .int v9), (10, .long v10), (12, .int v12)], [], σ) (fun v s => v = some (.long r) ∧ s = σ2) := by
  unfold m_clears_117_H113 at h
  refine Rc.blk (c := []) (s2 := (if v2 ≤ v12 then 173 else 119, [(0, .ref 117), (1, .int v1), (2, .int v2), (3, .long v3), (5, .int v5), (7, .long v7), (9, .int v9), (10, .long v10), (12, .int v12)], [], σ)) 16 rfl rfl (trivial) ?_
  by_cases c5 : v2 ≤ v12
  · rw [if_pos c5] at h
    refine Rc.ifp c5 ?_
    refine Rc.pick [0, 1, 2, 3, 4, 5, 6] (lv2 := [(0, .ref 117), (1, .int v1), (2, .int v2), (3, .long v3), (5, .int v5), (7, .long v7), (9, .int v9)]) rfl ?_
    exact m_clears_117_b173_ok hd hk5 hk79 _ _ _ _ _ _ _ _ _ h
  · rw [if_neg c5] at h
    refine Rc.ifn c5 ?_
    obtain ⟨g1, h⟩ := gd_some h
    obtain ⟨g2, h⟩ := gd_some h
    obtain ⟨g3, h⟩ := gd_some h
    obtain ⟨g4, h⟩ := gd_some h
    refine Rc.blk (c := [_, _, _, _, _, _, _]) (s2 := (113, [(12, .int (v12 + 1)), (0, .ref 117), (1, .int v1), (2, .int v2), (3, .long v3), (5, .int v5), (7, .long v7), (9, .int v9), (10, .long v10)], [], sl σ 123 ((9 * v9) + v12).toNatClampNeg ((((σ.2 123 ((9 * v9) + v12).toNatClampNeg) * v7) - (v10 * (σ.2 123 ((9 * v5) + v12).toNatClampNeg))) / v3))) 17 rfl rfl (conj_c (rfl) (conj_c (rfl) (conj_c (⟨rfl, inB_in g1⟩) (conj_c (rfl) (conj_c (⟨rfl, inB_in g2⟩) (conj_c (neBL_ne g3) (conj_c (⟨rfl, inB_in g4⟩) (trivial)))))))) ?_
    refine Rc.pick [1, 2, 3, 4, 5, 6, 7, 8, 0] (lv2 := [(0, .ref 117), (1, .int v1), (2, .int v2), (3, .long v3), (5, .int v5), (7, .long v7), (9, .int v9), (10, .long v10), (12, .int (v12 + 1))]) rfl ?_
    exact hk113 _ _ _ _ _ _ _ _ _ _ _ h
theorem m_clears_117_L113_ok {d : Nat} (hd : 1 ≤ d) {k5 : Int32 → Int32 → Int64 → Int32 → Sg → Option (Int64 × Sg)} {k79 : Int32 → Int32 → Int64 → Int32 → Int64 → Int32 → Sg → Option (Int64 × Sg)} (hk5 : ∀ (v1 : Int32) (v2 : Int32) (v3 : Int64) (v5 : Int32) (σ : Sg) (r : Int64) (σ2 : Sg), k5 v1 v2 v3 v5 σ = some (r, σ2) → Rc none (Ev MT CT d) sg143 (5, [(0, .ref 117), (1, .int v1), (2, .int v2), (3, .long v3), (5, .int v5)], [], σ) (fun v s => v = some (.long r) ∧ s = σ2)) (hk79 : ∀ (v1 : Int32) (v2 : Int32) (v3 : Int64) (v5 : Int32) (v7 : Int64) (v9 : Int32) (σ : Sg) (r : Int64) (σ2 : Sg), k79 v1 v2 v3 v5 v7 v9 σ = some (r, σ2) → Rc none (Ev MT CT d) sg143 (79, [(0, .ref 117), (1, .int v1), (2, .int v2), (3, .long v3), (5, .int v5), (7, .long v7), (9, .int v9)], [], σ) (fun v s => v = some (.long r) ∧ s = σ2)) : ∀ (n : Nat) (v1 : Int32) (v2 : Int32) (v3 : Int64) (v5 : Int32) (v7 : Int64) (v9 : Int32) (v10 : Int64) (v12 : Int32) (σ : Sg) (r : Int64) (σ2 : Sg), m_clears_117_L113 k5 k79 n v1 v2 v3 v5 v7 v9 v10 v12 σ = some (r, σ2) → Rc none (Ev MT CT d) sg143 (113, [(0, .ref 117), (1, .int v1), (2, .int v2), (3, .long v3), (5, .int v5), (7, .long v7), (9, .int v9), (10, .long v10), (12, .int v12)], [], σ) (fun v s => v = some (.long r) ∧ s = σ2)
  | 0, _, _, _, _, _, _, _, _, _, _, _, h => by cases h
  | n + 1, v1, v2, v3, v5, v7, v9, v10, v12, σ, r, σ2, h => m_clears_117_H113_ok hd hk5 hk79 (m_clears_117_L113_ok hd hk5 hk79 n) v1 v2 v3 v5 v7 v9 v10 v12 σ r σ2 h
theorem m_clears_117_H79_ok {d : Nat} (hd : 1 ≤ d) {k5 : Int32 → Int32 → Int64 → Int32 → Sg → Option (Int64 × Sg)} {k79 : Int32 → Int32 → Int64 → Int32 → Int64 → Int32 → Sg → Option (Int64 × Sg)} (hk5 : ∀ (v1 : Int32) (v2 : Int32) (v3 : Int64) (v5 : Int32) (σ : Sg) (r : Int64) (σ2 : Sg), k5 v1 v2 v3 v5 σ = some (r, σ2) → Rc none (Ev MT CT d) sg143 (5, [(0, .ref 117), (1, .int v1), (2, .int v2), (3, .long v3), (5, .int v5)], [], σ) (fun v s => v = some (.long r) ∧ s = σ2)) (hk79 : ∀ (v1 : Int32) (v2 : Int32) (v3 : Int64) (v5 : Int32) (v7 : Int64) (v9 : Int32) (σ : Sg) (r : Int64) (σ2 : Sg), k79 v1 v2 v3 v5 v7 v9 σ = some (r, σ2) → Rc none (Ev MT CT d) sg143 (79, [(0, .ref 117), (1, .int v1), (2, .int v2), (3, .long v3), (5, .int v5), (7, .long v7), (9, .int v9)], [], σ) (fun v s => v = some (.long r) ∧ s = σ2)) (v1 : Int32) (v2 : Int32) (v3 : Int64) (v5 : Int32) (v7 : Int64) (v9 : Int32) (σ : Sg) (r : Int64) (σ2 : Sg) (h : m_clears_117_H79 k5 k79 v1 v2 v3 v5 v7 v9 σ = some (r, σ2)) : Rc none (Ev MT CT d) sg143 (79, [(0, .ref 117), (1, .int v1), (2, .int v2), (3, .long v3), (5, .int v5), (7, .long v7), (9, .int v9)], [], σ) (fun v s => v = some (.long r) ∧ s = σ2) := by
  unfold m_clears_117_H79 at h
  refine Rc.blk (c := []) (s2 := (if 5 ≤ v9 then 179 else 85, [(0, .ref 117), (1, .int v1), (2, .int v2), (3, .long v3), (5, .int v5), (7, .long v7), (9, .int v9)], [], σ)) 12 rfl rfl (trivial) ?_
  by_cases c3 : 5 ≤ v9
  · rw [if_pos c3] at h
    refine Rc.ifp c3 ?_
    refine Rc.blk (c := []) (s2 := (5, [(5, .int (v5 + 1)), (3, .long v7), (0, .ref 117), (1, .int v1), (2, .int v2), (7, .long v7), (9, .int v9)], [], σ)) 19 rfl rfl (trivial) ?_
    refine Rc.pick [2, 3, 4, 1, 0] (lv2 := [(0, .ref 117), (1, .int v1), (2, .int v2), (3, .long v7), (5, .int (v5 + 1))]) rfl ?_
    exact hk5 _ _ _ _ _ _ _ h
  · rw [if_neg c3] at h
    refine Rc.ifn c3 ?_
    refine Rc.blk (c := []) (s2 := (if ¬ v9 = v5 then 95 else 92, [(0, .ref 117), (1, .int v1), (2, .int v2), (3, .long v3), (5, .int v5), (7, .long v7), (9, .int v9)], [], σ)) 13 rfl rfl (trivial) ?_
    by_cases c2 : v9 = v5
    · rw [if_pos c2] at h
      refine Rc.ifn (fun q => q c2) ?_
      refine Rc.blk (c := []) (s2 := (173, [(0, .ref 117), (1, .int v1), (2, .int v2), (3, .long v3), (5, .int v5), (7, .long v7), (9, .int v9)], [], σ)) 14 rfl rfl (trivial) ?_
      exact m_clears_117_b173_ok hd hk5 hk79 _ _ _ _ _ _ _ _ _ h
    · rw [if_neg c2] at h
      refine Rc.ifp c2 ?_
      obtain ⟨g1, h⟩ := gd_some h
      refine Rc.blk (c := [_, _]) (s2 := (113, [(12, .int 0), (10, .long (σ.2 123 ((9 * v9) + v5).toNatClampNeg)), (0, .ref 117), (1, .int v1), (2, .int v2), (3, .long v3), (5, .int v5), (7, .long v7), (9, .int v9)], [], σ)) 15 rfl rfl (conj_c (rfl) (conj_c (⟨rfl, inB_in g1⟩) (trivial))) ?_
      refine Rc.pick [2, 3, 4, 5, 6, 7, 8, 1, 0] (lv2 := [(0, .ref 117), (1, .int v1), (2, .int v2), (3, .long v3), (5, .int v5), (7, .long v7), (9, .int v9), (10, .long (σ.2 123 ((9 * v9) + v5).toNatClampNeg)), (12, .int 0)]) rfl ?_
      exact m_clears_117_L113_ok hd hk5 hk79 fu _ _ _ _ _ _ _ _ _ _ _ h
theorem m_clears_117_L79_ok {d : Nat} (hd : 1 ≤ d) {k5 : Int32 → Int32 → Int64 → Int32 → Sg → Option (Int64 × Sg)} (hk5 : ∀ (v1 : Int32) (v2 : Int32) (v3 : Int64) (v5 : Int32) (σ : Sg) (r : Int64) (σ2 : Sg), k5 v1 v2 v3 v5 σ = some (r, σ2) → Rc none (Ev MT CT d) sg143 (5, [(0, .ref 117), (1, .int v1), (2, .int v2), (3, .long v3), (5, .int v5)], [], σ) (fun v s => v = some (.long r) ∧ s = σ2)) : ∀ (n : Nat) (v1 : Int32) (v2 : Int32) (v3 : Int64) (v5 : Int32) (v7 : Int64) (v9 : Int32) (σ : Sg) (r : Int64) (σ2 : Sg), m_clears_117_L79 k5 n v1 v2 v3 v5 v7 v9 σ = some (r, σ2) → Rc none (Ev MT CT d) sg143 (79, [(0, .ref 117), (1, .int v1), (2, .int v2), (3, .long v3), (5, .int v5), (7, .long v7), (9, .int v9)], [], σ) (fun v s => v = some (.long r) ∧ s = σ2)
  | 0, _, _, _, _, _, _, _, _, _, h => by cases h
  | n + 1, v1, v2, v3, v5, v7, v9, σ, r, σ2, h => m_clears_117_H79_ok hd hk5 (m_clears_117_L79_ok hd hk5 n) v1 v2 v3 v5 v7 v9 σ r σ2 h
theorem m_clears_117_b45_ok {d : Nat} (hd : 1 ≤ d) {k5 : Int32 → Int32 → Int64 → Int32 → Sg → Option (Int64 × Sg)} (hk5 : ∀ (v1 : Int32) (v2 : Int32) (v3 : Int64) (v5 : Int32) (σ : Sg) (r : Int64) (σ2 : Sg), k5 v1 v2 v3 v5 σ = some (r, σ2) → Rc none (Ev MT CT d) sg143 (5, [(0, .ref 117), (1, .int v1), (2, .int v2), (3, .long v3), (5, .int v5)], [], σ) (fun v s => v = some (.long r) ∧ s = σ2)) (v1 : Int32) (v2 : Int32) (v3 : Int64) (v5 : Int32) (v6 : Int32) (σ : Sg) (r : Int64) (σ2 : Sg) (h : m_clears_117_b45 k5 v1 v2 v3 v5 v6 σ = some (r, σ2)) : Rc none (Ev MT CT d) sg143 (45, [(0, .ref 117), (1, .int v1), (2, .int v2), (3, .long v3), (5, .int v5), (6, .int v6)], [], σ) (fun v s => v = some (.long r) ∧ s = σ2) := by
  unfold m_clears_117_b45 at h
  refine Rc.blk (c := []) (s2 := (if v6 < 5 then 53 else 51, [(0, .ref 117), (1, .int v1), (2, .int v2), (3, .long v3), (5, .int v5), (6, .int v6)], [], σ)) 6 rfl rfl (trivial) ?_
  by_cases c3 : v6 < 5
  · rw [if_pos c3] at h
    refine Rc.ifp c3 ?_
    refine Rc.blk (c := []) (s2 := (58, [(0, .ref 117), (1, .int v1), (2, .int v2), (3, .long v3), (5, .int v5), (6, .int v6)], [.int v6, .int v5, .ref 117], σ)) 9 rfl rfl (trivial) ?_
    obtain ⟨r1, σ1, hc, h⟩ := bd_some h
    refine Rc.call (Ev.mono d) (v := none) (as := [.ref 117, .int v5, .int v6]) (r := []) 10 rfl rfl rfl rfl ⟨rfl, Nat.le_of_ble_eq_true rfl⟩ (m_swapRows_117_ok (by omega) hc) ?_
    show Rc _ _ _ (61, [(0, .ref 117), (1, .int v1), (2, .int v2), (3, .long v3), (5, .int v5), (6, .int v6)], [], σ1) _
    obtain ⟨g2, h⟩ := gd_some h
    refine Rc.blk (c := [_, _]) (s2 := (79, [(9, .int 0), (7, .long (σ1.2 123 ((9 * v5) + v5).toNatClampNeg)), (0, .ref 117), (1, .int v1), (2, .int v2), (3, .long v3), (5, .int v5), (6, .int v6)], [], σ1)) 11 rfl rfl (conj_c (rfl) (conj_c (⟨rfl, inB_in g2⟩) (trivial))) ?_
    refine Rc.pick [2, 3, 4, 5, 6, 1, 0] (lv2 := [(0, .ref 117), (1, .int v1), (2, .int v2), (3, .long v3), (5, .int v5), (7, .long (σ1.2 123 ((9 * v5) + v5).toNatClampNeg)), (9, .int 0)]) rfl ?_
    exact m_clears_117_L79_ok hd hk5 fu _ _ _ _ _ _ _ _ _ h
  · rw [if_neg c3] at h
    refine Rc.ifn c3 ?_
    refine Rc.blk (c := []) (s2 := (52, [(0, .ref 117), (1, .int v1), (2, .int v2), (3, .long v3), (5, .int v5), (6, .int v6)], [.long 0], σ)) 7 rfl rfl (trivial) ?_
    obtain ⟨rfl, rfl⟩ := some_pair h
    exact Rc.ret 8 rfl rfl rfl trivial ⟨rfl, rfl⟩
theorem m_clears_117_H15_ok {d : Nat} (hd : 1 ≤ d) {k5 : Int32 → Int32 → Int64 → Int32 → Sg → Option (Int64 × Sg)} {k15 : Int32 → Int32 → Int64 → Int32 → Int32 → Sg → Option (Int64 × Sg)} (hk5 : ∀ (v1 : Int32) (v2 : Int32) (v3 : Int64) (v5 : Int32) (σ : Sg) (r : Int64) (σ2 : Sg), k5 v1 v2 v3 v5 σ = some (r, σ2) → Rc none (Ev MT CT d) sg143 (5, [(0, .ref 117), (1, .int v1), (2, .int v2), (3, .long v3), (5, .int v5)], [], σ) (fun v s => v = some (.long r) ∧ s = σ2)) (hk15 : ∀ (v1 : Int32) (v2 : Int32) (v3 : Int64) (v5 : Int32) (v6 : Int32) (σ : Sg) (r : Int64) (σ2 : Sg), k15 v1 v2 v3 v5 v6 σ = some (r, σ2) → Rc none (Ev MT CT d) sg143 (15, [(0, .ref 117), (1, .int v1), (2, .int v2), (3, .long v3), (5, .int v5), (6, .int v6)], [], σ) (fun v s => v = some (.long r) ∧ s = σ2)) (v1 : Int32) (v2 : Int32) (v3 : Int64) (v5 : Int32) (v6 : Int32) (σ : Sg) (r : Int64) (σ2 : Sg) (h : m_clears_117_H15 k5 k15 v1 v2 v3 v5 v6 σ = some (r, σ2)) : Rc none (Ev MT CT d) sg143 (15, [(0, .ref 117), (1, .int v1), (2, .int v2), (3, .long v3), (5, .int v5), (6, .int v6)], [], σ) (fun v s => v = some (.long r) ∧ s = σ2) := by
  unfold m_clears_117_H15 at h
  refine Rc.blk (c := []) (s2 := (if 5 ≤ v6 then 45 else 21, [(0, .ref 117), (1, .int v1), (2, .int v2), (3, .long v3), (5, .int v5), (6, .int v6)], [], σ)) 3 rfl rfl (trivial) ?_
  by_cases c3 : 5 ≤ v6
  · rw [if_pos c3] at h
    refine Rc.ifp c3 ?_
    exact m_clears_117_b45_ok hd hk5 _ _ _ _ _ _ _ _ h
  · rw [if_neg c3] at h
    refine Rc.ifn c3 ?_
    obtain ⟨g1, h⟩ := gd_some h
    refine Rc.blk (c := [_, _]) (s2 := (if ¬ (lg_cmp (σ.2 123 ((9 * v6) + v5).toNatClampNeg) 0) = 0 then 45 else 39, [(0, .ref 117), (1, .int v1), (2, .int v2), (3, .long v3), (5, .int v5), (6, .int v6)], [], σ)) 4 rfl rfl (conj_c (rfl) (conj_c (⟨rfl, inB_in g1⟩) (trivial))) ?_
    by_cases c2 : (lg_cmp (σ.2 123 ((9 * v6) + v5).toNatClampNeg) 0) = 0
    · rw [if_pos c2] at h
      refine Rc.ifn (fun q => q c2) ?_
      refine Rc.blk (c := []) (s2 := (15, [(6, .int (v6 + 1)), (0, .ref 117), (1, .int v1), (2, .int v2), (3, .long v3), (5, .int v5)], [], σ)) 5 rfl rfl (trivial) ?_
      refine Rc.pick [1, 2, 3, 4, 5, 0] (lv2 := [(0, .ref 117), (1, .int v1), (2, .int v2), (3, .long v3), (5, .int v5), (6, .int (v6 + 1))]) rfl ?_
      exact hk15 _ _ _ _ _ _ _ _ h
    · rw [if_neg c2] at h
      refine Rc.ifp c2 ?_
      exact m_clears_117_b45_ok hd hk5 _ _ _ _ _ _ _ _ h
theorem m_clears_117_L15_ok {d : Nat} (hd : 1 ≤ d) {k5 : Int32 → Int32 → Int64 → Int32 → Sg → Option (Int64 × Sg)} (hk5 : ∀ (v1 : Int32) (v2 : Int32) (v3 : Int64) (v5 : Int32) (σ : Sg) (r : Int64) (σ2 : Sg), k5 v1 v2 v3 v5 σ = some (r, σ2) → Rc none (Ev MT CT d) sg143 (5, [(0, .ref 117), (1, .int v1), (2, .int v2), (3, .long v3), (5, .int v5)], [], σ) (fun v s => v = some (.long r) ∧ s = σ2)) : ∀ (n : Nat) (v1 : Int32) (v2 : Int32) (v3 : Int64) (v5 : Int32) (v6 : Int32) (σ : Sg) (r : Int64) (σ2 : Sg), m_clears_117_L15 k5 n v1 v2 v3 v5 v6 σ = some (r, σ2) → Rc none (Ev MT CT d) sg143 (15, [(0, .ref 117), (1, .int v1), (2, .int v2), (3, .long v3), (5, .int v5), (6, .int v6)], [], σ) (fun v s => v = some (.long r) ∧ s = σ2)
  | 0, _, _, _, _, _, _, _, _, h => by cases h
  | n + 1, v1, v2, v3, v5, v6, σ, r, σ2, h => m_clears_117_H15_ok hd hk5 (m_clears_117_L15_ok hd hk5 n) v1 v2 v3 v5 v6 σ r σ2 h
theorem m_clears_117_H5_ok {d : Nat} (hd : 1 ≤ d) {k5 : Int32 → Int32 → Int64 → Int32 → Sg → Option (Int64 × Sg)} (hk5 : ∀ (v1 : Int32) (v2 : Int32) (v3 : Int64) (v5 : Int32) (σ : Sg) (r : Int64) (σ2 : Sg), k5 v1 v2 v3 v5 σ = some (r, σ2) → Rc none (Ev MT CT d) sg143 (5, [(0, .ref 117), (1, .int v1), (2, .int v2), (3, .long v3), (5, .int v5)], [], σ) (fun v s => v = some (.long r) ∧ s = σ2)) (v1 : Int32) (v2 : Int32) (v3 : Int64) (v5 : Int32) (σ : Sg) (r : Int64) (σ2 : Sg) (h : m_clears_117_H5 k5 v1 v2 v3 v5 σ = some (r, σ2)) : Rc none (Ev MT CT d) sg143 (5, [(0, .ref 117), (1, .int v1), (2, .int v2), (3, .long v3), (5, .int v5)], [], σ) (fun v s => v = some (.long r) ∧ s = σ2) := by
  unfold m_clears_117_H5 at h
  refine Rc.blk (c := []) (s2 := (if v1 ≤ v5 then 188 else 11, [(0, .ref 117), (1, .int v1), (2, .int v2), (3, .long v3), (5, .int v5)], [], σ)) 1 rfl rfl (trivial) ?_
  by_cases c1 : v1 ≤ v5
  · rw [if_pos c1] at h
    refine Rc.ifp c1 ?_
    refine Rc.blk (c := []) (s2 := (189, [(0, .ref 117), (1, .int v1), (2, .int v2), (3, .long v3), (5, .int v5)], [.long v3], σ)) 20 rfl rfl (trivial) ?_
    obtain ⟨rfl, rfl⟩ := some_pair h
    exact Rc.ret 21 rfl rfl rfl trivial ⟨rfl, rfl⟩
  · rw [if_neg c1] at h
    refine Rc.ifn c1 ?_
    refine Rc.blk (c := []) (s2 := (15, [(6, .int v5), (0, .ref 117), (1, .int v1), (2, .int v2), (3, .long v3), (5, .int v5)], [], σ)) 2 rfl rfl (trivial) ?_
    refine Rc.pick [1, 2, 3, 4, 5, 0] (lv2 := [(0, .ref 117), (1, .int v1), (2, .int v2), (3, .long v3), (5, .int v5), (6, .int v5)]) rfl ?_
    exact m_clears_117_L15_ok hd hk5 fu _ _ _ _ _ _ _ _ h
theorem m_clears_117_L5_ok {d : Nat} (hd : 1 ≤ d) : ∀ (n : Nat) (v1 : Int32) (v2 : Int32) (v3 : Int64) (v5 : Int32) (σ : Sg) (r : Int64) (σ2 : Sg), m_clears_117_L5 n v1 v2 v3 v5 σ = some (r, σ2) → Rc none (Ev MT CT d) sg143 (5, [(0, .ref 117), (1, .int v1), (2, .int v2), (3, .long v3), (5, .int v5)], [], σ) (fun v s => v = some (.long r) ∧ s = σ2)
  | 0, _, _, _, _, _, _, _, h => by cases h
  | n + 1, v1, v2, v3, v5, σ, r, σ2, h => m_clears_117_H5_ok hd (m_clears_117_L5_ok hd n) v1 v2 v3 v5 σ r σ2 h
theorem m_clears_117_ok {d : Nat} (hd : 2 ≤ d) {v1 : Int32} {v2 : Int32} {σ : Sg} {r : Int64} {σ2 : Sg} (h : m_clears_117 v1 v2 σ = some (r, σ2)) : Ev MT CT d 143 [.ref 117, .int v1, .int v2] σ (fun v s => v = some (.long r) ∧ s = σ2) := by
  obtain ⟨d, rfl⟩ : ∃ e, d = e + 1 := ⟨d - 1, by omega⟩
  refine ⟨Nat.le_of_ble_eq_true rfl, ?_⟩
  show Rc none (Ev MT CT d) sg143 (0, [(0, .ref 117), (1, .int v1), (2, .int v2)], [], σ) _
  unfold m_clears_117 at h
  have hd : 1 ≤ d := by omega
  refine Rc.blk (c := []) (s2 := (5, [(5, .int 0), (3, .long 1), (0, .ref 117), (1, .int v1), (2, .int v2)], [], σ)) 0 rfl rfl (trivial) ?_
  refine Rc.pick [2, 3, 4, 1, 0] (lv2 := [(0, .ref 117), (1, .int v1), (2, .int v2), (3, .long 1), (5, .int 0)]) rfl ?_
  exact m_clears_117_L5_ok hd fu _ _ _ _ _ _ _ h
theorem m_common_s_H28_ok {d : Nat} (hd : 0 ≤ d) {k28 : Int64 → Int64 → Sg → Option (Int64 × Sg)} (hk28 : ∀ (v4 : Int64) (v6 : Int64) (σ : Sg) (r : Int64) (σ2 : Sg), k28 v4 v6 σ = some (r, σ2) → Rc none (Ev MT CT d) sg123 (28, [(4, .long v4), (6, .long v6)], [], σ) (fun v s => v = some (.long r) ∧ s = σ2)) (v4 : Int64) (v6 : Int64) (σ : Sg) (r : Int64) (σ2 : Sg) (h : m_common_s_H28 k28 v4 v6 σ = some (r, σ2)) : Rc none (Ev MT CT d) sg123 (28, [(4, .long v4), (6, .long v6)], [], σ) (fun v s => v = some (.long r) ∧ s = σ2) := by
  unfold m_common_s_H28 at h
  refine Rc.blk (c := []) (s2 := (if (lg_cmp v6 0) = 0 then 53 else 35, [(4, .long v4), (6, .long v6)], [], σ)) 7 rfl rfl (trivial) ?_
  by_cases c2 : (lg_cmp v6 0) = 0
  · rw [if_pos c2] at h
    refine Rc.ifp c2 ?_
    refine Rc.blk (c := []) (s2 := (55, [(4, .long v4), (6, .long v6)], [.long v4], σ)) 9 rfl rfl (trivial) ?_
    obtain ⟨rfl, rfl⟩ := some_pair h
    exact Rc.ret 10 rfl rfl rfl trivial ⟨rfl, rfl⟩
  · rw [if_neg c2] at h
    refine Rc.ifn c2 ?_
    obtain ⟨g1, h⟩ := gd_some h
    refine Rc.blk (c := [_]) (s2 := (28, [(6, .long (lrm v4 v6)), (4, .long v6), (8, .long (lrm v4 v6))], [], σ)) 8 rfl rfl (conj_c (neBL_ne g1) (trivial)) ?_
    refine Rc.pick [1, 0] (lv2 := [(4, .long v6), (6, .long (lrm v4 v6))]) rfl ?_
    exact hk28 _ _ _ _ _ h
theorem m_common_s_L28_ok {d : Nat} (hd : 0 ≤ d) : ∀ (n : Nat) (v4 : Int64) (v6 : Int64) (σ : Sg) (r : Int64) (σ2 : Sg), m_common_s_L28 n v4 v6 σ = some (r, σ2) → Rc none (Ev MT CT d) sg123 (28, [(4, .long v4), (6, .long v6)], [], σ) (fun v s => v = some (.long r) ∧ s = σ2)
  | 0, _, _, _, _, _, h => by cases h
  | n + 1, v4, v6, σ, r, σ2, h => m_common_s_H28_ok hd (m_common_s_L28_ok hd n) v4 v6 σ r σ2 h
theorem m_common_s_b26_ok {d : Nat} (hd : 0 ≤ d) (v4 : Int64) (s0 : Int64) (σ : Sg) (r : Int64) (σ2 : Sg) (h : m_common_s_b26 v4 s0 σ = some (r, σ2)) : Rc none (Ev MT CT d) sg123 (26, [(4, .long v4)], [.long s0], σ) (fun v s => v = some (.long r) ∧ s = σ2) := by
  unfold m_common_s_b26 at h
  refine Rc.blk (c := []) (s2 := (28, [(6, .long s0), (4, .long v4)], [], σ)) 6 rfl rfl (trivial) ?_
  refine Rc.pick [1, 0] (lv2 := [(4, .long v4), (6, .long s0)]) rfl ?_
  exact m_common_s_L28_ok hd fu _ _ _ _ _ h
theorem m_common_s_b12_ok {d : Nat} (hd : 0 ≤ d) (v2 : Int64) (s0 : Int64) (σ : Sg) (r : Int64) (σ2 : Sg) (h : m_common_s_b12 v2 s0 σ = some (r, σ2)) : Rc none (Ev MT CT d) sg123 (12, [(2, .long v2)], [.long s0], σ) (fun v s => v = some (.long r) ∧ s = σ2) := by
  unfold m_common_s_b12 at h
  refine Rc.blk (c := []) (s2 := (if 0 ≤ (lg_cmp v2 0) then 25 else 20, [(4, .long s0), (2, .long v2)], [], σ)) 3 rfl rfl (trivial) ?_
  by_cases c1 : 0 ≤ (lg_cmp v2 0)
  · rw [if_pos c1] at h
    refine Rc.ifp c1 ?_
    refine Rc.blk (c := []) (s2 := (26, [(4, .long s0), (2, .long v2)], [.long v2], σ)) 5 rfl rfl (trivial) ?_
    refine Rc.pick [0] (lv2 := [(4, .long s0)]) rfl ?_
    exact m_common_s_b26_ok hd _ _ _ _ _ h
  · rw [if_neg c1] at h
    refine Rc.ifn c1 ?_
    refine Rc.blk (c := []) (s2 := (26, [(4, .long s0), (2, .long v2)], [.long (-v2)], σ)) 4 rfl rfl (trivial) ?_
    refine Rc.pick [0] (lv2 := [(4, .long s0)]) rfl ?_
    exact m_common_s_b26_ok hd _ _ _ _ _ h
theorem m_common_s_ok {d : Nat} (hd : 1 ≤ d) {v0 : Int64} {v2 : Int64} {σ : Sg} {r : Int64} {σ2 : Sg} (h : m_common_s v0 v2 σ = some (r, σ2)) : Ev MT CT d 123 [.long v0, .long v2] σ (fun v s => v = some (.long r) ∧ s = σ2) := by
  obtain ⟨d, rfl⟩ : ∃ e, d = e + 1 := ⟨d - 1, by omega⟩
  refine ⟨Nat.le_of_ble_eq_true rfl, ?_⟩
  show Rc none (Ev MT CT d) sg123 (0, [(0, .long v0), (2, .long v2)], [], σ) _
  unfold m_common_s at h
  have hd : 0 ≤ d := by omega
  refine Rc.blk (c := []) (s2 := (if 0 ≤ (lg_cmp v0 0) then 11 else 6, [(0, .long v0), (2, .long v2)], [], σ)) 0 rfl rfl (trivial) ?_
  by_cases c1 : 0 ≤ (lg_cmp v0 0)
  · rw [if_pos c1] at h
    refine Rc.ifp c1 ?_
    refine Rc.blk (c := []) (s2 := (12, [(0, .long v0), (2, .long v2)], [.long v0], σ)) 2 rfl rfl (trivial) ?_
    refine Rc.pick [1] (lv2 := [(2, .long v2)]) rfl ?_
    exact m_common_s_b12_ok hd _ _ _ _ _ h
  · rw [if_neg c1] at h
    refine Rc.ifn c1 ?_
    refine Rc.blk (c := []) (s2 := (12, [(0, .long v0), (2, .long v2)], [.long (-v0)], σ)) 1 rfl rfl (trivial) ?_
    refine Rc.pick [1] (lv2 := [(2, .long v2)]) rfl ?_
    exact m_common_s_b12_ok hd _ _ _ _ _ h
theorem m_has_s_b14_ok {d : Nat} (hd : 0 ≤ d) (s0 : Int32) (σ : Sg) (r : Int32) (σ2 : Sg) (h : m_has_s_b14 s0 σ = some (r, σ2)) : Rc none (Ev MT CT d) sg118 (14, [], [.int s0], σ) (fun v s => v = some (.int r) ∧ s = σ2) := by
  unfold m_has_s_b14 at h
  obtain ⟨g, h⟩ := gd_some h
  obtain ⟨rfl, rfl⟩ := some_pair h
  exact Rc.ret 3 rfl rfl rfl (nbB_ok g) ⟨rfl, rfl⟩
theorem m_has_s_ok {d : Nat} (hd : 1 ≤ d) {v0 : Int32} {v1 : Int32} {σ : Sg} {r : Int32} {σ2 : Sg} (h : m_has_s v0 v1 σ = some (r, σ2)) : Ev MT CT d 118 [.int v0, .int v1] σ (fun v s => v = some (.int r) ∧ s = σ2) := by
  obtain ⟨d, rfl⟩ : ∃ e, d = e + 1 := ⟨d - 1, by omega⟩
  refine ⟨Nat.le_of_ble_eq_true rfl, ?_⟩
  show Rc none (Ev MT CT d) sg118 (0, [(0, .int v0), (1, .int v1)], [], σ) _
  unfold m_has_s at h
  have hd : 0 ≤ d := by omega
  refine Rc.blk (c := []) (s2 := (if ¬ ((v0 >>> (v1 &&& 31)) &&& 1) = 1 then 13 else 9, [(0, .int v0), (1, .int v1)], [], σ)) 0 rfl rfl (trivial) ?_
  by_cases c1 : ((v0 >>> (v1 &&& 31)) &&& 1) = 1
  · rw [if_pos c1] at h
    refine Rc.ifn (fun q => q c1) ?_
    refine Rc.blk (c := []) (s2 := (14, [(0, .int v0), (1, .int v1)], [.int 1], σ)) 1 rfl rfl (trivial) ?_
    refine Rc.pick [] (lv2 := []) rfl ?_
    exact m_has_s_b14_ok hd _ _ _ _ h
  · rw [if_neg c1] at h
    refine Rc.ifp c1 ?_
    refine Rc.blk (c := []) (s2 := (14, [(0, .int v0), (1, .int v1)], [.int 0], σ)) 2 rfl rfl (trivial) ?_
    refine Rc.pick [] (lv2 := []) rfl ?_
    exact m_has_s_b14_ok hd _ _ _ _ h
theorem m_powerOf_117_b68_ok {d : Nat} (hd : 0 ≤ d) (s0 : Int32) (σ : Sg) (r : Int32) (σ2 : Sg) (h : m_powerOf_117_b68 s0 σ = some (r, σ2)) : Rc none (Ev MT CT d) sg134 (68, [], [.int s0], σ) (fun v s => v = some (.int r) ∧ s = σ2) := by
  unfold m_powerOf_117_b68 at h
  obtain ⟨rfl, rfl⟩ := some_pair h
  exact Rc.ret 4 rfl rfl rfl trivial ⟨rfl, rfl⟩
theorem m_powerOf_117_b81_ok {d : Nat} (hd : 0 ≤ d) (s0 : Int32) (σ : Sg) (r : Int32) (σ2 : Sg) (h : m_powerOf_117_b81 s0 σ = some (r, σ2)) : Rc none (Ev MT CT d) sg134 (81, [], [.int s0], σ) (fun v s => v = some (.int r) ∧ s = σ2) := by
  unfold m_powerOf_117_b81 at h
  obtain ⟨rfl, rfl⟩ := some_pair h
  exact Rc.ret 8 rfl rfl rfl trivial ⟨rfl, rfl⟩
theorem m_powerOf_117_b105_ok {d : Nat} (hd : 0 ≤ d) (s0 : Int32) (σ : Sg) (r : Int32) (σ2 : Sg) (h : m_powerOf_117_b105 s0 σ = some (r, σ2)) : Rc none (Ev MT CT d) sg134 (105, [], [.int s0], σ) (fun v s => v = some (.int r) ∧ s = σ2) := by
  unfold m_powerOf_117_b105 at h
  obtain ⟨rfl, rfl⟩ := some_pair h
  exact Rc.ret 14 rfl rfl rfl trivial ⟨rfl, rfl⟩
theorem m_powerOf_117_b124_ok {d : Nat} (hd : 0 ≤ d) (s0 : Int32) (σ : Sg) (r : Int32) (σ2 : Sg) (h : m_powerOf_117_b124 s0 σ = some (r, σ2)) : Rc none (Ev MT CT d) sg134 (124, [], [.int s0], σ) (fun v s => v = some (.int r) ∧ s = σ2) := by
  unfold m_powerOf_117_b124 at h
  obtain ⟨rfl, rfl⟩ := some_pair h
  exact Rc.ret 20 rfl rfl rfl trivial ⟨rfl, rfl⟩
theorem m_powerOf_117_ok {d : Nat} (hd : 1 ≤ d) {v1 : Int32} {v2 : Int32} {σ : Sg} {r : Int32} {σ2 : Sg} (h : m_powerOf_117 v1 v2 σ = some (r, σ2)) : Ev MT CT d 134 [.ref 117, .int v1, .int v2] σ (fun v s => v = some (.int r) ∧ s = σ2) := by
  obtain ⟨d, rfl⟩ : ∃ e, d = e + 1 := ⟨d - 1, by omega⟩
  refine ⟨Nat.le_of_ble_eq_true rfl, ?_⟩
  show Rc none (Ev MT CT d) sg134 (0, [(0, .ref 117), (1, .int v1), (2, .int v2)], [], σ) _
  unfold m_powerOf_117 at h
  have hd : 0 ≤ d := by omega
  obtain ⟨g1, h⟩ := gd_some h
  obtain ⟨g2, h⟩ := gd_some h
  refine Rc.blk (c := [_, _, _, _]) (s2 := (swt (σ.1 118 (1 + v1).toNatClampNeg) 125 1 [56, 69, 82, 106, 108], [(3, .int (σ.1 118 ((9 + (5 * v1)) + v2).toNatClampNeg)), (0, .ref 117), (1, .int v1), (2, .int v2)], [], σ)) 0 rfl rfl (conj_c (rfl) (conj_c (⟨rfl, inB_in g1⟩) (conj_c (rfl) (conj_c (⟨rfl, inB_in g2⟩) (trivial))))) ?_
  by_cases c3 : (σ.1 118 (1 + v1).toNatClampNeg) = 1
  · rw [if_pos c3] at h
    refine Rc.sw1 (by rw [c3]; rfl) ?_
    show Rc _ _ _ (56, _, _, _) _
    refine Rc.blk (c := []) (s2 := (if ¬ v2 = 2 then 67 else 61, [(3, .int (σ.1 118 ((9 + (5 * v1)) + v2).toNatClampNeg)), (0, .ref 117), (1, .int v1), (2, .int v2)], [], σ)) 1 rfl rfl (trivial) ?_
    by_cases c4 : v2 = 2
    · rw [if_pos c4] at h
      refine Rc.ifn (fun q => q c4) ?_
      refine Rc.blk (c := []) (s2 := (68, [(3, .int (σ.1 118 ((9 + (5 * v1)) + v2).toNatClampNeg)), (0, .ref 117), (1, .int v1), (2, .int v2)], [.int ((σ.1 118 ((9 + (5 * v1)) + v2).toNatClampNeg) - 1)], σ)) 2 rfl rfl (trivial) ?_
      refine Rc.pick [] (lv2 := []) rfl ?_
      exact m_powerOf_117_b68_ok hd _ _ _ _ h
    · rw [if_neg c4] at h
      refine Rc.ifp c4 ?_
      refine Rc.blk (c := []) (s2 := (68, [(3, .int (σ.1 118 ((9 + (5 * v1)) + v2).toNatClampNeg)), (0, .ref 117), (1, .int v1), (2, .int v2)], [.int (σ.1 118 ((9 + (5 * v1)) + v2).toNatClampNeg)], σ)) 3 rfl rfl (trivial) ?_
      refine Rc.pick [] (lv2 := []) rfl ?_
      exact m_powerOf_117_b68_ok hd _ _ _ _ h
  · rw [if_neg c3] at h
    refine Rc.sw2 (fun q => c3 (q.trans rfl)) ?_
    by_cases c5 : (σ.1 118 (1 + v1).toNatClampNeg) = 2
    · rw [if_pos c5] at h
      refine Rc.sw1 (by rw [c5]; rfl) ?_
      show Rc _ _ _ (69, _, _, _) _
      refine Rc.blk (c := []) (s2 := (if ¬ v2 = 1 then 80 else 74, [(3, .int (σ.1 118 ((9 + (5 * v1)) + v2).toNatClampNeg)), (0, .ref 117), (1, .int v1), (2, .int v2)], [], σ)) 5 rfl rfl (trivial) ?_
      by_cases c6 : v2 = 1
      · rw [if_pos c6] at h
        refine Rc.ifn (fun q => q c6) ?_
        refine Rc.blk (c := []) (s2 := (81, [(3, .int (σ.1 118 ((9 + (5 * v1)) + v2).toNatClampNeg)), (0, .ref 117), (1, .int v1), (2, .int v2)], [.int ((σ.1 118 ((9 + (5 * v1)) + v2).toNatClampNeg) - 1)], σ)) 6 rfl rfl (trivial) ?_
        refine Rc.pick [] (lv2 := []) rfl ?_
        exact m_powerOf_117_b81_ok hd _ _ _ _ h
      · rw [if_neg c6] at h
        refine Rc.ifp c6 ?_
        refine Rc.blk (c := []) (s2 := (81, [(3, .int (σ.1 118 ((9 + (5 * v1)) + v2).toNatClampNeg)), (0, .ref 117), (1, .int v1), (2, .int v2)], [.int (σ.1 118 ((9 + (5 * v1)) + v2).toNatClampNeg)], σ)) 7 rfl rfl (trivial) ?_
        refine Rc.pick [] (lv2 := []) rfl ?_
        exact m_powerOf_117_b81_ok hd _ _ _ _ h
    · rw [if_neg c5] at h
      refine Rc.sw2 (fun q => c5 (q.trans rfl)) ?_
      by_cases c7 : (σ.1 118 (1 + v1).toNatClampNeg) = 3
      · rw [if_pos c7] at h
        refine Rc.sw1 (by rw [c7]; rfl) ?_
        show Rc _ _ _ (82, _, _, _) _
        refine Rc.blk (c := []) (s2 := (if ¬ v2 = 1 then 93 else 87, [(3, .int (σ.1 118 ((9 + (5 * v1)) + v2).toNatClampNeg)), (0, .ref 117), (1, .int v1), (2, .int v2)], [], σ)) 9 rfl rfl (trivial) ?_
        by_cases c9 : v2 = 1
        · rw [if_pos c9] at h
          refine Rc.ifn (fun q => q c9) ?_
          refine Rc.blk (c := []) (s2 := (105, [(3, .int (σ.1 118 ((9 + (5 * v1)) + v2).toNatClampNeg)), (0, .ref 117), (1, .int v1), (2, .int v2)], [.int ((σ.1 118 ((9 + (5 * v1)) + v2).toNatClampNeg) - 2)], σ)) 10 rfl rfl (trivial) ?_
          refine Rc.pick [] (lv2 := []) rfl ?_
          exact m_powerOf_117_b105_ok hd _ _ _ _ h
        · rw [if_neg c9] at h
          refine Rc.ifp c9 ?_
          refine Rc.blk (c := []) (s2 := (if ¬ v2 = 2 then 104 else 98, [(3, .int (σ.1 118 ((9 + (5 * v1)) + v2).toNatClampNeg)), (0, .ref 117), (1, .int v1), (2, .int v2)], [], σ)) 11 rfl rfl (trivial) ?_
          by_cases c8 : v2 = 2
          · rw [if_pos c8] at h
            refine Rc.ifn (fun q => q c8) ?_
            refine Rc.blk (c := []) (s2 := (105, [(3, .int (σ.1 118 ((9 + (5 * v1)) + v2).toNatClampNeg)), (0, .ref 117), (1, .int v1), (2, .int v2)], [.int ((σ.1 118 ((9 + (5 * v1)) + v2).toNatClampNeg) - 1)], σ)) 12 rfl rfl (trivial) ?_
            refine Rc.pick [] (lv2 := []) rfl ?_
            exact m_powerOf_117_b105_ok hd _ _ _ _ h
          · rw [if_neg c8] at h
            refine Rc.ifp c8 ?_
            refine Rc.blk (c := []) (s2 := (105, [(3, .int (σ.1 118 ((9 + (5 * v1)) + v2).toNatClampNeg)), (0, .ref 117), (1, .int v1), (2, .int v2)], [.int (σ.1 118 ((9 + (5 * v1)) + v2).toNatClampNeg)], σ)) 13 rfl rfl (trivial) ?_
            refine Rc.pick [] (lv2 := []) rfl ?_
            exact m_powerOf_117_b105_ok hd _ _ _ _ h
      · rw [if_neg c7] at h
        refine Rc.sw2 (fun q => c7 (q.trans rfl)) ?_
        by_cases c10 : (σ.1 118 (1 + v1).toNatClampNeg) = 4
        · rw [if_pos c10] at h
          refine Rc.sw1 (by rw [c10]; rfl) ?_
          show Rc _ _ _ (106, _, _, _) _
          refine Rc.blk (c := []) (s2 := (107, [(3, .int (σ.1 118 ((9 + (5 * v1)) + v2).toNatClampNeg)), (0, .ref 117), (1, .int v1), (2, .int v2)], [.int 0], σ)) 15 rfl rfl (trivial) ?_
          obtain ⟨rfl, rfl⟩ := some_pair h
          exact Rc.ret 16 rfl rfl rfl trivial ⟨rfl, rfl⟩
        · rw [if_neg c10] at h
          refine Rc.sw2 (fun q => c10 (q.trans rfl)) ?_
          by_cases c11 : (σ.1 118 (1 + v1).toNatClampNeg) = 5
          · rw [if_pos c11] at h
            refine Rc.sw1 (by rw [c11]; rfl) ?_
            show Rc _ _ _ (108, _, _, _) _
            refine Rc.blk (c := []) (s2 := (if ¬ v2 = 1 then 121 else 113, [(3, .int (σ.1 118 ((9 + (5 * v1)) + v2).toNatClampNeg)), (0, .ref 117), (1, .int v1), (2, .int v2)], [], σ)) 17 rfl rfl (trivial) ?_
            by_cases c12 : v2 = 1
            · rw [if_pos c12] at h
              refine Rc.ifn (fun q => q c12) ?_
              refine Rc.blk (c := []) (s2 := (124, [(3, .int (σ.1 118 ((9 + (5 * v1)) + v2).toNatClampNeg)), (0, .ref 117), (1, .int v1), (2, .int v2)], [.int ((2 * (σ.1 118 ((9 + (5 * v1)) + v2).toNatClampNeg)) - 2)], σ)) 18 rfl rfl (trivial) ?_
              refine Rc.pick [] (lv2 := []) rfl ?_
              exact m_powerOf_117_b124_ok hd _ _ _ _ h
            · rw [if_neg c12] at h
              refine Rc.ifp c12 ?_
              refine Rc.blk (c := []) (s2 := (124, [(3, .int (σ.1 118 ((9 + (5 * v1)) + v2).toNatClampNeg)), (0, .ref 117), (1, .int v1), (2, .int v2)], [.int (2 * (σ.1 118 ((9 + (5 * v1)) + v2).toNatClampNeg))], σ)) 19 rfl rfl (trivial) ?_
              refine Rc.pick [] (lv2 := []) rfl ?_
              exact m_powerOf_117_b124_ok hd _ _ _ _ h
          · rw [if_neg c11] at h
            refine Rc.sw2 (fun q => c11 (q.trans rfl)) ?_
            refine Rc.sw0 ?_
            refine Rc.blk (c := []) (s2 := (126, [(3, .int (σ.1 118 ((9 + (5 * v1)) + v2).toNatClampNeg)), (0, .ref 117), (1, .int v1), (2, .int v2)], [.int (σ.1 118 ((9 + (5 * v1)) + v2).toNatClampNeg)], σ)) 21 rfl rfl (trivial) ?_
            obtain ⟨rfl, rfl⟩ := some_pair h
            exact Rc.ret 22 rfl rfl rfl trivial ⟨rfl, rfl⟩
theorem m_lays2_117_b112_ok {d : Nat} (hd : 1 ≤ d) (v3 : Int32) (σ : Sg) (r : Int32) (σ2 : Sg) (h : m_lays2_117_b112 v3 σ = some (r, σ2)) : Rc none (Ev MT CT d) sg144 (112, [(3, .int v3)], [], σ) (fun v s => v = some (.int r) ∧ s = σ2) := by
  unfold m_lays2_117_b112 at h
  refine Rc.blk (c := []) (s2 := (113, [(3, .int v3)], [.int v3], σ)) 19 rfl rfl (trivial) ?_
  obtain ⟨rfl, rfl⟩ := some_pair h
  exact Rc.ret 20 rfl rfl rfl trivial ⟨rfl, rfl⟩
theorem m_lays2_117_H76_ok {d : Nat} (hd : 1 ≤ d) {k76 : Int32 → Int32 → Int32 → Sg → Option (Int32 × Sg)} (hk76 : ∀ (v2 : Int32) (v3 : Int32) (v4 : Int32) (σ : Sg) (r : Int32) (σ2 : Sg), k76 v2 v3 v4 σ = some (r, σ2) → Rc none (Ev MT CT d) sg144 (76, [(0, .ref 117), (2, .int v2), (3, .int v3), (4, .int v4)], [], σ) (fun v s => v = some (.int r) ∧ s = σ2)) (v2 : Int32) (v3 : Int32) (v4 : Int32) (σ : Sg) (r : Int32) (σ2 : Sg) (h : m_lays2_117_H76 k76 v2 v3 v4 σ = some (r, σ2)) : Rc none (Ev MT CT d) sg144 (76, [(0, .ref 117), (2, .int v2), (3, .int v3), (4, .int v4)], [], σ) (fun v s => v = some (.int r) ∧ s = σ2) := by
  unfold m_lays2_117_H76 at h
  refine Rc.blk (c := []) (s2 := (if 5 ≤ v4 then 112 else 82, [(0, .ref 117), (2, .int v2), (3, .int v3), (4, .int v4)], [], σ)) 14 rfl rfl (trivial) ?_
  by_cases c4 : 5 ≤ v4
  · rw [if_pos c4] at h
    refine Rc.ifp c4 ?_
    refine Rc.pick [2] (lv2 := [(3, .int v3)]) rfl ?_
    exact m_lays2_117_b112_ok hd _ _ _ _ h
  · rw [if_neg c4] at h
    refine Rc.ifn c4 ?_
    refine Rc.blk (c := []) (s2 := (if v2 < 0 then 112 else 86, [(0, .ref 117), (2, .int v2), (3, .int v3), (4, .int v4)], [], σ)) 15 rfl rfl (trivial) ?_
    by_cases c3 : v2 < 0
    · rw [if_pos c3] at h
      refine Rc.ifp c3 ?_
      refine Rc.pick [2] (lv2 := [(3, .int v3)]) rfl ?_
      exact m_lays2_117_b112_ok hd _ _ _ _ h
    · rw [if_neg c3] at h
      refine Rc.ifn c3 ?_
      refine Rc.blk (c := [_]) (s2 := (101, [(0, .ref 117), (2, .int v2), (3, .int v3), (4, .int v4)], [.int v4, .int v2, .ref 117, .int ((9 * v4) + v3), .ref 123], σ)) 16 rfl rfl (conj_c (rfl) (trivial)) ?_
      obtain ⟨r1, σ1, hc, h⟩ := bd_some h
      refine Rc.call (Ev.mono d) (v := some (.int r1)) (as := [.ref 117, .int v2, .int v4]) (r := [.int ((9 * v4) + v3), .ref 123]) 17 rfl rfl rfl rfl ⟨rfl, Nat.le_of_ble_eq_true rfl⟩ (m_powerOf_117_ok (by omega) hc) ?_
      show Rc _ _ _ (104, [(0, .ref 117), (2, .int v2), (3, .int v3), (4, .int v4)], [.int r1, .int ((9 * v4) + v3), .ref 123], σ1) _
      obtain ⟨g2, h⟩ := gd_some h
      refine Rc.blk (c := [_]) (s2 := (76, [(4, .int (v4 + 1)), (0, .ref 117), (2, .int v2), (3, .int v3)], [], sl σ1 123 ((9 * v4) + v3).toNatClampNeg r1.toInt64)) 18 rfl rfl (conj_c (⟨rfl, inB_in g2⟩) (trivial)) ?_
      refine Rc.pick [1, 2, 3, 0] (lv2 := [(0, .ref 117), (2, .int v2), (3, .int v3), (4, .int (v4 + 1))]) rfl ?_
      exact hk76 _ _ _ _ _ _ h
theorem m_lays2_117_L76_ok {d : Nat} (hd : 1 ≤ d) : ∀ (n : Nat) (v2 : Int32) (v3 : Int32) (v4 : Int32) (σ : Sg) (r : Int32) (σ2 : Sg), m_lays2_117_L76 n v2 v3 v4 σ = some (r, σ2) → Rc none (Ev MT CT d) sg144 (76, [(0, .ref 117), (2, .int v2), (3, .int v3), (4, .int v4)], [], σ) (fun v s => v = some (.int r) ∧ s = σ2)
  | 0, _, _, _, _, _, _, h => by cases h
  | n + 1, v2, v3, v4, σ, r, σ2, h => m_lays2_117_H76_ok hd (m_lays2_117_L76_ok hd n) v2 v3 v4 σ r σ2 h
theorem m_lays2_117_b67_ok {d : Nat} (hd : 1 ≤ d) {k5 : Int32 → Int32 → Int32 → Int32 → Sg → Option (Int32 × Sg)} (hk5 : ∀ (v1 : Int32) (v2 : Int32) (v3 : Int32) (v4 : Int32) (σ : Sg) (r : Int32) (σ2 : Sg), k5 v1 v2 v3 v4 σ = some (r, σ2) → Rc none (Ev MT CT d) sg144 (5, [(0, .ref 117), (1, .int v1), (2, .int v2), (3, .int v3), (4, .int v4)], [], σ) (fun v s => v = some (.int r) ∧ s = σ2)) (v1 : Int32) (v2 : Int32) (v3 : Int32) (v4 : Int32) (σ : Sg) (r : Int32) (σ2 : Sg) (h : m_lays2_117_b67 k5 v1 v2 v3 v4 σ = some (r, σ2)) : Rc none (Ev MT CT d) sg144 (67, [(0, .ref 117), (1, .int v1), (2, .int v2), (3, .int v3), (4, .int v4)], [], σ) (fun v s => v = some (.int r) ∧ s = σ2) := by
  unfold m_lays2_117_b67 at h
  refine Rc.blk (c := []) (s2 := (5, [(4, .int (v4 + 1)), (0, .ref 117), (1, .int v1), (2, .int v2), (3, .int v3)], [], σ)) 12 rfl rfl (trivial) ?_
  refine Rc.pick [1, 2, 3, 4, 0] (lv2 := [(0, .ref 117), (1, .int v1), (2, .int v2), (3, .int v3), (4, .int (v4 + 1))]) rfl ?_
  exact hk5 _ _ _ _ _ _ _ h
theorem m_lays2_117_H31_ok {d : Nat} (hd : 1 ≤ d) {k5 : Int32 → Int32 → Int32 → Int32 → Sg → Option (Int32 × Sg)} {k31 : Int32 → Int32 → Int32 → Int32 → Int32 → Sg → Option (Int32 × Sg)} (hk5 : ∀ (v1 : Int32) (v2 : Int32) (v3 : Int32) (v4 : Int32) (σ : Sg) (r : Int32) (σ2 : Sg), k5 v1 v2 v3 v4 σ = some (r, σ2) → Rc none (Ev MT CT d) sg144 (5, [(0, .ref 117), (1, .int v1), (2, .int v2), (3, .int v3), (4, .int v4)], [], σ) (fun v s => v = some (.int r) ∧ s = σ2)) (hk31 : ∀ (v1 : Int32) (v2 : Int32) (v3 : Int32) (v4 : Int32) (v5 : Int32) (σ : Sg) (r : Int32) (σ2 : Sg), k31 v1 v2 v3 v4 v5 σ = some (r, σ2) → Rc none (Ev MT CT d) sg144 (31, [(0, .ref 117), (1, .int v1), (2, .int v2), (3, .int v3), (4, .int v4), (5, .int v5)], [], σ) (fun v s => v = some (.int r) ∧ s = σ2)) (v1 : Int32) (v2 : Int32) (v3 : Int32) (v4 : Int32) (v5 : Int32) (σ : Sg) (r : Int32) (σ2 : Sg) (h : m_lays2_117_H31 k5 k31 v1 v2 v3 v4 v5 σ = some (r, σ2)) : Rc none (Ev MT CT d) sg144 (31, [(0, .ref 117), (1, .int v1), (2, .int v2), (3, .int v3), (4, .int v4), (5, .int v5)], [], σ) (fun v s => v = some (.int r) ∧ s = σ2) := by
  unfold m_lays2_117_H31 at h
  refine Rc.blk (c := []) (s2 := (if 5 ≤ v5 then 64 else 37, [(0, .ref 117), (1, .int v1), (2, .int v2), (3, .int v3), (4, .int v4), (5, .int v5)], [], σ)) 7 rfl rfl (trivial) ?_
  by_cases c3 : 5 ≤ v5
  · rw [if_pos c3] at h
    refine Rc.ifp c3 ?_
    refine Rc.blk (c := []) (s2 := (67, [(3, .int (v3 + 1)), (0, .ref 117), (1, .int v1), (2, .int v2), (4, .int v4), (5, .int v5)], [], σ)) 11 rfl rfl (trivial) ?_
    refine Rc.pick [1, 2, 3, 0, 4] (lv2 := [(0, .ref 117), (1, .int v1), (2, .int v2), (3, .int (v3 + 1)), (4, .int v4)]) rfl ?_
    exact m_lays2_117_b67_ok hd hk5 _ _ _ _ _ _ _ h
  · rw [if_neg c3] at h
    refine Rc.ifn c3 ?_
    refine Rc.blk (c := [_]) (s2 := (53, [(0, .ref 117), (1, .int v1), (2, .int v2), (3, .int v3), (4, .int v4), (5, .int v5)], [.int v5, .int v4, .ref 117, .int ((9 * v5) + v3), .ref 123], σ)) 8 rfl rfl (conj_c (rfl) (trivial)) ?_
    obtain ⟨r1, σ1, hc, h⟩ := bd_some h
    refine Rc.call (Ev.mono d) (v := some (.int r1)) (as := [.ref 117, .int v4, .int v5]) (r := [.int ((9 * v5) + v3), .ref 123]) 9 rfl rfl rfl rfl ⟨rfl, Nat.le_of_ble_eq_true rfl⟩ (m_powerOf_117_ok (by omega) hc) ?_
    show Rc _ _ _ (56, [(0, .ref 117), (1, .int v1), (2, .int v2), (3, .int v3), (4, .int v4), (5, .int v5)], [.int r1, .int ((9 * v5) + v3), .ref 123], σ1) _
    obtain ⟨g2, h⟩ := gd_some h
    refine Rc.blk (c := [_]) (s2 := (31, [(5, .int (v5 + 1)), (0, .ref 117), (1, .int v1), (2, .int v2), (3, .int v3), (4, .int v4)], [], sl σ1 123 ((9 * v5) + v3).toNatClampNeg r1.toInt64)) 10 rfl rfl (conj_c (⟨rfl, inB_in g2⟩) (trivial)) ?_
    refine Rc.pick [1, 2, 3, 4, 5, 0] (lv2 := [(0, .ref 117), (1, .int v1), (2, .int v2), (3, .int v3), (4, .int v4), (5, .int (v5 + 1))]) rfl ?_
    exact hk31 _ _ _ _ _ _ _ _ h
theorem m_lays2_117_L31_ok {d : Nat} (hd : 1 ≤ d) {k5 : Int32 → Int32 → Int32 → Int32 → Sg → Option (Int32 × Sg)} (hk5 : ∀ (v1 : Int32) (v2 : Int32) (v3 : Int32) (v4 : Int32) (σ : Sg) (r : Int32) (σ2 : Sg), k5 v1 v2 v3 v4 σ = some (r, σ2) → Rc none (Ev MT CT d) sg144 (5, [(0, .ref 117), (1, .int v1), (2, .int v2), (3, .int v3), (4, .int v4)], [], σ) (fun v s => v = some (.int r) ∧ s = σ2)) : ∀ (n : Nat) (v1 : Int32) (v2 : Int32) (v3 : Int32) (v4 : Int32) (v5 : Int32) (σ : Sg) (r : Int32) (σ2 : Sg), m_lays2_117_L31 k5 n v1 v2 v3 v4 v5 σ = some (r, σ2) → Rc none (Ev MT CT d) sg144 (31, [(0, .ref 117), (1, .int v1), (2, .int v2), (3, .int v3), (4, .int v4), (5, .int v5)], [], σ) (fun v s => v = some (.int r) ∧ s = σ2)
  | 0, _, _, _, _, _, _, _, _, h => by cases h
  | n + 1, v1, v2, v3, v4, v5, σ, r, σ2, h => m_lays2_117_H31_ok hd hk5 (m_lays2_117_L31_ok hd hk5 n) v1 v2 v3 v4 v5 σ r σ2 h
theorem m_lays2_117_H5_ok {d : Nat} (hd : 1 ≤ d) {k5 : Int32 → Int32 → Int32 → Int32 → Sg → Option (Int32 × Sg)} (hk5 : ∀ (v1 : Int32) (v2 : Int32) (v3 : Int32) (v4 : Int32) (σ : Sg) (r : Int32) (σ2 : Sg), k5 v1 v2 v3 v4 σ = some (r, σ2) → Rc none (Ev MT CT d) sg144 (5, [(0, .ref 117), (1, .int v1), (2, .int v2), (3, .int v3), (4, .int v4)], [], σ) (fun v s => v = some (.int r) ∧ s = σ2)) (v1 : Int32) (v2 : Int32) (v3 : Int32) (v4 : Int32) (σ : Sg) (r : Int32) (σ2 : Sg) (h : m_lays2_117_H5 k5 v1 v2 v3 v4 σ = some (r, σ2)) : Rc none (Ev MT CT d) sg144 (5, [(0, .ref 117), (1, .int v1), (2, .int v2), (3, .int v3), (4, .int v4)], [], σ) (fun v s => v = some (.int r) ∧ s = σ2) := by
  unfold m_lays2_117_H5 at h
  refine Rc.blk (c := [_, _]) (s2 := (if (σ.1 118 0) ≤ v4 then 73 else 16, [(0, .ref 117), (1, .int v1), (2, .int v2), (3, .int v3), (4, .int v4)], [], σ)) 1 rfl rfl (conj_c (rfl) (conj_c (⟨rfl, inB_in (by decide)⟩) (trivial))) ?_
  by_cases c3 : (σ.1 118 0) ≤ v4
  · rw [if_pos c3] at h
    refine Rc.ifp c3 ?_
    refine Rc.blk (c := []) (s2 := (76, [(4, .int 0), (0, .ref 117), (1, .int v1), (2, .int v2), (3, .int v3)], [], σ)) 13 rfl rfl (trivial) ?_
    refine Rc.pick [1, 3, 4, 0] (lv2 := [(0, .ref 117), (2, .int v2), (3, .int v3), (4, .int 0)]) rfl ?_
    exact m_lays2_117_L76_ok hd fu _ _ _ _ _ _ h
  · rw [if_neg c3] at h
    refine Rc.ifn c3 ?_
    refine Rc.blk (c := []) (s2 := (19, [(0, .ref 117), (1, .int v1), (2, .int v2), (3, .int v3), (4, .int v4)], [.int v4, .int v1], σ)) 2 rfl rfl (trivial) ?_
    obtain ⟨r1, σ1, hc, h⟩ := bd_some h
    refine Rc.call (Ev.mono d) (v := some (.int r1)) (as := [.int v1, .int v4]) (r := []) 3 rfl rfl rfl rfl (Nat.le_of_ble_eq_true rfl) (m_has_s_ok (by omega) hc) ?_
    show Rc _ _ _ (22, [(0, .ref 117), (1, .int v1), (2, .int v2), (3, .int v3), (4, .int v4)], [.int r1], σ1) _
    refine Rc.blk (c := []) (s2 := (if ¬ r1 = 0 then 28 else 25, [(0, .ref 117), (1, .int v1), (2, .int v2), (3, .int v3), (4, .int v4)], [], σ1)) 4 rfl rfl (trivial) ?_
    by_cases c2 : r1 = 0
    · rw [if_pos c2] at h
      refine Rc.ifn (fun q => q c2) ?_
      refine Rc.blk (c := []) (s2 := (67, [(0, .ref 117), (1, .int v1), (2, .int v2), (3, .int v3), (4, .int v4)], [], σ1)) 5 rfl rfl (trivial) ?_
      exact m_lays2_117_b67_ok hd hk5 _ _ _ _ _ _ _ h
    · rw [if_neg c2] at h
      refine Rc.ifp c2 ?_
      refine Rc.blk (c := []) (s2 := (31, [(5, .int 0), (0, .ref 117), (1, .int v1), (2, .int v2), (3, .int v3), (4, .int v4)], [], σ1)) 6 rfl rfl (trivial) ?_
      refine Rc.pick [1, 2, 3, 4, 5, 0] (lv2 := [(0, .ref 117), (1, .int v1), (2, .int v2), (3, .int v3), (4, .int v4), (5, .int 0)]) rfl ?_
      exact m_lays2_117_L31_ok hd hk5 fu _ _ _ _ _ _ _ _ h
theorem m_lays2_117_L5_ok {d : Nat} (hd : 1 ≤ d) : ∀ (n : Nat) (v1 : Int32) (v2 : Int32) (v3 : Int32) (v4 : Int32) (σ : Sg) (r : Int32) (σ2 : Sg), m_lays2_117_L5 n v1 v2 v3 v4 σ = some (r, σ2) → Rc none (Ev MT CT d) sg144 (5, [(0, .ref 117), (1, .int v1), (2, .int v2), (3, .int v3), (4, .int v4)], [], σ) (fun v s => v = some (.int r) ∧ s = σ2)
  | 0, _, _, _, _, _, _, _, h => by cases h
  | n + 1, v1, v2, v3, v4, σ, r, σ2, h => m_lays2_117_H5_ok hd (m_lays2_117_L5_ok hd n) v1 v2 v3 v4 σ r σ2 h
theorem m_lays2_117_ok {d : Nat} (hd : 2 ≤ d) {v1 : Int32} {v2 : Int32} {σ : Sg} {r : Int32} {σ2 : Sg} (h : m_lays2_117 v1 v2 σ = some (r, σ2)) : Ev MT CT d 144 [.ref 117, .int v1, .int v2] σ (fun v s => v = some (.int r) ∧ s = σ2) := by
  obtain ⟨d, rfl⟩ : ∃ e, d = e + 1 := ⟨d - 1, by omega⟩
  refine ⟨Nat.le_of_ble_eq_true rfl, ?_⟩
  show Rc none (Ev MT CT d) sg144 (0, [(0, .ref 117), (1, .int v1), (2, .int v2)], [], σ) _
  unfold m_lays2_117 at h
  have hd : 1 ≤ d := by omega
  refine Rc.blk (c := []) (s2 := (5, [(4, .int 0), (3, .int 0), (0, .ref 117), (1, .int v1), (2, .int v2)], [], σ)) 0 rfl rfl (trivial) ?_
  refine Rc.pick [2, 3, 4, 1, 0] (lv2 := [(0, .ref 117), (1, .int v1), (2, .int v2), (3, .int 0), (4, .int 0)]) rfl ?_
  exact m_lays2_117_L5_ok hd fu _ _ _ _ _ _ _ h
theorem m_isHad_117_b175_ok {d : Nat} (hd : 2 ≤ d) {k112 : Int32 → Int32 → Int32 → Int64 → Int64 → Int32 → Int32 → Sg → Option (Int32 × Sg)} (hk112 : ∀ (v1 : Int32) (v2 : Int32) (v3 : Int32) (v4 : Int64) (v6 : Int64) (v8 : Int32) (v9 : Int32) (σ : Sg) (r : Int32) (σ2 : Sg), k112 v1 v2 v3 v4 v6 v8 v9 σ = some (r, σ2) → Rc none (Ev MT CT d) sg146 (112, [(0, .ref 117), (1, .int v1), (2, .int v2), (3, .int v3), (4, .long v4), (6, .long v6), (8, .int v8), (9, .int v9)], [], σ) (fun v s => v = some (.int r) ∧ s = σ2)) (v1 : Int32) (v2 : Int32) (v3 : Int32) (v4 : Int64) (v6 : Int64) (v9 : Int32) (s0 : Int32) (s1 : Int32) (σ : Sg) (r : Int32) (σ2 : Sg) (h : m_isHad_117_b175 k112 v1 v2 v3 v4 v6 v9 s0 s1 σ = some (r, σ2)) : Rc none (Ev MT CT d) sg146 (175, [(0, .ref 117), (1, .int v1), (2, .int v2), (3, .int v3), (4, .long v4), (6, .long v6), (9, .int v9)], [.int s1, .int s0], σ) (fun v s => v = some (.int r) ∧ s = σ2) := by
  unfold m_isHad_117_b175 at h
  refine Rc.blk (c := []) (s2 := (112, [(9, .int (v9 + 1)), (8, .int (s0 + s1)), (0, .ref 117), (1, .int v1), (2, .int v2), (3, .int v3), (4, .long v4), (6, .long v6)], [], σ)) 30 rfl rfl (trivial) ?_
  refine Rc.pick [2, 3, 4, 5, 6, 7, 1, 0] (lv2 := [(0, .ref 117), (1, .int v1), (2, .int v2), (3, .int v3), (4, .long v4), (6, .long v6), (8, .int (s0 + s1)), (9, .int (v9 + 1))]) rfl ?_
  exact hk112 _ _ _ _ _ _ _ _ _ _ h
theorem m_isHad_117_b158_ok {d : Nat} (hd : 2 ≤ d) {k112 : Int32 → Int32 → Int32 → Int64 → Int64 → Int32 → Int32 → Sg → Option (Int32 × Sg)} (hk112 : ∀ (v1 : Int32) (v2 : Int32) (v3 : Int32) (v4 : Int64) (v6 : Int64) (v8 : Int32) (v9 : Int32) (σ : Sg) (r : Int32) (σ2 : Sg), k112 v1 v2 v3 v4 v6 v8 v9 σ = some (r, σ2) → Rc none (Ev MT CT d) sg146 (112, [(0, .ref 117), (1, .int v1), (2, .int v2), (3, .int v3), (4, .long v4), (6, .long v6), (8, .int v8), (9, .int v9)], [], σ) (fun v s => v = some (.int r) ∧ s = σ2)) (v1 : Int32) (v2 : Int32) (v3 : Int32) (v4 : Int64) (v6 : Int64) (v8 : Int32) (v9 : Int32) (s1 : Int32) (s2 : Int64) (σ : Sg) (r : Int32) (σ2 : Sg) (h : m_isHad_117_b158 k112 v1 v2 v3 v4 v6 v8 v9 s1 s2 σ = some (r, σ2)) : Rc none (Ev MT CT d) sg146 (158, [(0, .ref 117), (1, .int v1), (2, .int v2), (3, .int v3), (4, .long v4), (6, .long v6), (8, .int v8), (9, .int v9)], [.long s2, .int s1, .ref 124], σ) (fun v s => v = some (.int r) ∧ s = σ2) := by
  unfold m_isHad_117_b158 at h
  obtain ⟨g1, h⟩ := gd_some h
  refine Rc.blk (c := [_]) (s2 := (164, [(0, .ref 117), (1, .int v1), (2, .int v2), (3, .int v3), (4, .long v4), (6, .long v6), (8, .int v8), (9, .int v9)], [.int v9, .int v1, .int v8], sl σ 124 s1.toNatClampNeg s2)) 25 rfl rfl (conj_c (⟨rfl, inB_in g1⟩) (trivial)) ?_
  obtain ⟨r2, σ2, hc, h⟩ := bd_some h
  refine Rc.call (Ev.mono d) (v := some (.int r2)) (as := [.int v1, .int v9]) (r := [.int v8]) 26 rfl rfl rfl rfl (Nat.le_of_ble_eq_true rfl) (m_has_s_ok (by omega) hc) ?_
  show Rc _ _ _ (167, [(0, .ref 117), (1, .int v1), (2, .int v2), (3, .int v3), (4, .long v4), (6, .long v6), (8, .int v8), (9, .int v9)], [.int r2, .int v8], σ2) _
  refine Rc.blk (c := []) (s2 := (if r2 = 0 then 174 else 170, [(0, .ref 117), (1, .int v1), (2, .int v2), (3, .int v3), (4, .long v4), (6, .long v6), (8, .int v8), (9, .int v9)], [.int v8], σ2)) 27 rfl rfl (trivial) ?_
  by_cases c3 : r2 = 0
  · rw [if_pos c3] at h
    refine Rc.ifp c3 ?_
    refine Rc.blk (c := []) (s2 := (175, [(0, .ref 117), (1, .int v1), (2, .int v2), (3, .int v3), (4, .long v4), (6, .long v6), (8, .int v8), (9, .int v9)], [.int 0, .int v8], σ2)) 29 rfl rfl (trivial) ?_
    refine Rc.pick [0, 1, 2, 3, 4, 5, 7] (lv2 := [(0, .ref 117), (1, .int v1), (2, .int v2), (3, .int v3), (4, .long v4), (6, .long v6), (9, .int v9)]) rfl ?_
    exact m_isHad_117_b175_ok hd hk112 _ _ _ _ _ _ _ _ _ _ _ h
  · rw [if_neg c3] at h
    refine Rc.ifn c3 ?_
    refine Rc.blk (c := []) (s2 := (175, [(0, .ref 117), (1, .int v1), (2, .int v2), (3, .int v3), (4, .long v4), (6, .long v6), (8, .int v8), (9, .int v9)], [.int 1, .int v8], σ2)) 28 rfl rfl (trivial) ?_
    refine Rc.pick [0, 1, 2, 3, 4, 5, 7] (lv2 := [(0, .ref 117), (1, .int v1), (2, .int v2), (3, .int v3), (4, .long v4), (6, .long v6), (9, .int v9)]) rfl ?_
    exact m_isHad_117_b175_ok hd hk112 _ _ _ _ _ _ _ _ _ _ _ h
theorem m_isHad_117_H112_ok {d : Nat} (hd : 2 ≤ d) {k112 : Int32 → Int32 → Int32 → Int64 → Int64 → Int32 → Int32 → Sg → Option (Int32 × Sg)} (hk112 : ∀ (v1 : Int32) (v2 : Int32) (v3 : Int32) (v4 : Int64) (v6 : Int64) (v8 : Int32) (v9 : Int32) (σ : Sg) (r : Int32) (σ2 : Sg), k112 v1 v2 v3 v4 v6 v8 v9 σ = some (r, σ2) → Rc none (Ev MT CT d) sg146 (112, [(0, .ref 117), (1, .int v1), (2, .int v2), (3, .int v3), (4, .long v4), (6, .long v6), (8, .int v8), (9, .int v9)], [], σ) (fun v s => v = some (.int r) ∧ s = σ2)) (v1 : Int32) (v2 : Int32) (v3 : Int32) (v4 : Int64) (v6 : Int64) (v8 : Int32) (v9 : Int32) (σ : Sg) (r : Int32) (σ2 : Sg) (h : m_isHad_117_H112 k112 v1 v2 v3 v4 v6 v8 v9 σ = some (r, σ2)) : Rc none (Ev MT CT d) sg146 (112, [(0, .ref 117), (1, .int v1), (2, .int v2), (3, .int v3), (4, .long v4), (6, .long v6), (8, .int v8), (9, .int v9)], [], σ) (fun v s => v = some (.int r) ∧ s = σ2) := by
  unfold m_isHad_117_H112 at h
  refine Rc.blk (c := [_, _]) (s2 := (if (σ.1 118 0) ≤ v9 then 184 else 123, [(0, .ref 117), (1, .int v1), (2, .int v2), (3, .int v3), (4, .long v4), (6, .long v6), (8, .int v8), (9, .int v9)], [], σ)) 19 rfl rfl (conj_c (rfl) (conj_c (⟨rfl, inB_in (by decide)⟩) (trivial))) ?_
  by_cases c7 : (σ.1 118 0) ≤ v9
  · rw [if_pos c7] at h
    refine Rc.ifp c7 ?_
    obtain ⟨g1, h⟩ := gd_some h
    obtain ⟨g2, h⟩ := gd_some h
    refine Rc.blk (c := [_, _, _]) (s2 := (196, [(0, .ref 117), (1, .int v1), (2, .int v2), (3, .int v3), (4, .long v4), (6, .long v6), (8, .int v8), (9, .int v9)], [.int 1], sl σ 124 v2.toNatClampNeg (v4 / v6))) 31 rfl rfl (conj_c (rfl) (conj_c (neBL_ne g1) (conj_c (⟨rfl, inB_in g2⟩) (trivial)))) ?_
    obtain ⟨rfl, rfl⟩ := some_pair h
    exact Rc.ret 32 rfl rfl rfl (Or.inr rfl) ⟨rfl, rfl⟩
  · rw [if_neg c7] at h
    refine Rc.ifn c7 ?_
    refine Rc.blk (c := [_]) (s2 := (132, [(0, .ref 117), (1, .int v1), (2, .int v2), (3, .int v3), (4, .long v4), (6, .long v6), (8, .int v8), (9, .int v9)], [.int v9, .int v1, .int v9, .ref 124], σ)) 20 rfl rfl (conj_c (rfl) (trivial)) ?_
    obtain ⟨r3, σ3, hc, h⟩ := bd_some h
    refine Rc.call (Ev.mono d) (v := some (.int r3)) (as := [.int v1, .int v9]) (r := [.int v9, .ref 124]) 21 rfl rfl rfl rfl (Nat.le_of_ble_eq_true rfl) (m_has_s_ok (by omega) hc) ?_
    show Rc _ _ _ (135, [(0, .ref 117), (1, .int v1), (2, .int v2), (3, .int v3), (4, .long v4), (6, .long v6), (8, .int v8), (9, .int v9)], [.int r3, .int v9, .ref 124], σ3) _
    refine Rc.blk (c := []) (s2 := (if r3 = 0 then 157 else 138, [(0, .ref 117), (1, .int v1), (2, .int v2), (3, .int v3), (4, .long v4), (6, .long v6), (8, .int v8), (9, .int v9)], [.int v9, .ref 124], σ3)) 22 rfl rfl (trivial) ?_
    by_cases c6 : r3 = 0
    · rw [if_pos c6] at h
      refine Rc.ifp c6 ?_
      refine Rc.blk (c := []) (s2 := (158, [(0, .ref 117), (1, .int v1), (2, .int v2), (3, .int v3), (4, .long v4), (6, .long v6), (8, .int v8), (9, .int v9)], [.long 0, .int v9, .ref 124], σ3)) 24 rfl rfl (trivial) ?_
      exact m_isHad_117_b158_ok hd hk112 _ _ _ _ _ _ _ _ _ _ _ _ h
    · rw [if_neg c6] at h
      refine Rc.ifn c6 ?_
      obtain ⟨g4, h⟩ := gd_some h
      obtain ⟨g5, h⟩ := gd_some h
      refine Rc.blk (c := [_, _, _]) (s2 := (158, [(0, .ref 117), (1, .int v1), (2, .int v2), (3, .int v3), (4, .long v4), (6, .long v6), (8, .int v8), (9, .int v9)], [.long ((-(σ3.2 123 ((9 * v8) + v3).toNatClampNeg)) / v6), .int v9, .ref 124], σ3)) 23 rfl rfl (conj_c (rfl) (conj_c (⟨rfl, inB_in g4⟩) (conj_c (neBL_ne g5) (trivial)))) ?_
      exact m_isHad_117_b158_ok hd hk112 _ _ _ _ _ _ _ _ _ _ _ _ h
theorem m_isHad_117_L112_ok {d : Nat} (hd : 2 ≤ d) : ∀ (n : Nat) (v1 : Int32) (v2 : Int32) (v3 : Int32) (v4 : Int64) (v6 : Int64) (v8 : Int32) (v9 : Int32) (σ : Sg) (r : Int32) (σ2 : Sg), m_isHad_117_L112 n v1 v2 v3 v4 v6 v8 v9 σ = some (r, σ2) → Rc none (Ev MT CT d) sg146 (112, [(0, .ref 117), (1, .int v1), (2, .int v2), (3, .int v3), (4, .long v4), (6, .long v6), (8, .int v8), (9, .int v9)], [], σ) (fun v s => v = some (.int r) ∧ s = σ2)
  | 0, _, _, _, _, _, _, _, _, _, _, h => by cases h
  | n + 1, v1, v2, v3, v4, v6, v8, v9, σ, r, σ2, h => m_isHad_117_H112_ok hd (m_isHad_117_L112_ok hd n) v1 v2 v3 v4 v6 v8 v9 σ r σ2 h
theorem m_isHad_117_b104_ok {d : Nat} (hd : 2 ≤ d) (v1 : Int32) (v2 : Int32) (v3 : Int32) (v4 : Int64) (s0 : Int64) (σ : Sg) (r : Int32) (σ2 : Sg) (h : m_isHad_117_b104 v1 v2 v3 v4 s0 σ = some (r, σ2)) : Rc none (Ev MT CT d) sg146 (104, [(0, .ref 117), (1, .int v1), (2, .int v2), (3, .int v3), (4, .long v4)], [.long s0], σ) (fun v s => v = some (.int r) ∧ s = σ2) := by
  unfold m_isHad_117_b104 at h
  refine Rc.blk (c := []) (s2 := (112, [(9, .int 0), (8, .int 0), (6, .long s0), (0, .ref 117), (1, .int v1), (2, .int v2), (3, .int v3), (4, .long v4)], [], σ)) 18 rfl rfl (trivial) ?_
  refine Rc.pick [3, 4, 5, 6, 7, 2, 1, 0] (lv2 := [(0, .ref 117), (1, .int v1), (2, .int v2), (3, .int v3), (4, .long v4), (6, .long s0), (8, .int 0), (9, .int 0)]) rfl ?_
  exact m_isHad_117_L112_ok hd fu _ _ _ _ _ _ _ _ _ _ h
theorem m_isHad_117_H58_ok {d : Nat} (hd : 2 ≤ d) {k58 : Int32 → Int32 → Int32 → Int64 → Int64 → Int32 → Sg → Option (Int32 × Sg)} (hk58 : ∀ (v1 : Int32) (v2 : Int32) (v3 : Int32) (v4 : Int64) (v6 : Int64) (v8 : Int32) (σ : Sg) (r : Int32) (σ2 : Sg), k58 v1 v2 v3 v4 v6 v8 σ = some (r, σ2) → Rc none (Ev MT CT d) sg146 (58, [(0, .ref 117), (1, .int v1), (2, .int v2), (3, .int v3), (4, .long v4), (6, .long v6), (8, .int v8)], [], σ) (fun v s => v = some (.int r) ∧ s = σ2)) (v1 : Int32) (v2 : Int32) (v3 : Int32) (v4 : Int64) (v6 : Int64) (v8 : Int32) (σ : Sg) (r : Int32) (σ2 : Sg) (h : m_isHad_117_H58 k58 v1 v2 v3 v4 v6 v8 σ = some (r, σ2)) : Rc none (Ev MT CT d) sg146 (58, [(0, .ref 117), (1, .int v1), (2, .int v2), (3, .int v3), (4, .long v4), (6, .long v6), (8, .int v8)], [], σ) (fun v s => v = some (.int r) ∧ s = σ2) := by
  unfold m_isHad_117_H58 at h
  refine Rc.blk (c := []) (s2 := (if v3 ≤ v8 then 89 else 64, [(0, .ref 117), (1, .int v1), (2, .int v2), (3, .int v3), (4, .long v4), (6, .long v6), (8, .int v8)], [], σ)) 11 rfl rfl (trivial) ?_
  by_cases c4 : v3 ≤ v8
  · rw [if_pos c4] at h
    refine Rc.ifp c4 ?_
    refine Rc.blk (c := []) (s2 := (if 0 ≤ (lg_cmp v4 0) then 102 else 96, [(0, .ref 117), (1, .int v1), (2, .int v2), (3, .int v3), (4, .long v4), (6, .long v6), (8, .int v8)], [], σ)) 15 rfl rfl (trivial) ?_
    by_cases c1 : 0 ≤ (lg_cmp v4 0)
    · rw [if_pos c1] at h
      refine Rc.ifp c1 ?_
      refine Rc.blk (c := []) (s2 := (104, [(0, .ref 117), (1, .int v1), (2, .int v2), (3, .int v3), (4, .long v4), (6, .long v6), (8, .int v8)], [.long v6], σ)) 17 rfl rfl (trivial) ?_
      refine Rc.pick [0, 1, 2, 3, 4] (lv2 := [(0, .ref 117), (1, .int v1), (2, .int v2), (3, .int v3), (4, .long v4)]) rfl ?_
      exact m_isHad_117_b104_ok hd _ _ _ _ _ _ _ _ h
    · rw [if_neg c1] at h
      refine Rc.ifn c1 ?_
      refine Rc.blk (c := []) (s2 := (104, [(0, .ref 117), (1, .int v1), (2, .int v2), (3, .int v3), (4, .long v4), (6, .long v6), (8, .int v8)], [.long (-v6)], σ)) 16 rfl rfl (trivial) ?_
      refine Rc.pick [0, 1, 2, 3, 4] (lv2 := [(0, .ref 117), (1, .int v1), (2, .int v2), (3, .int v3), (4, .long v4)]) rfl ?_
      exact m_isHad_117_b104_ok hd _ _ _ _ _ _ _ _ h
  · rw [if_neg c4] at h
    refine Rc.ifn c4 ?_
    obtain ⟨g2, h⟩ := gd_some h
    refine Rc.blk (c := [_, _]) (s2 := (78, [(0, .ref 117), (1, .int v1), (2, .int v2), (3, .int v3), (4, .long v4), (6, .long v6), (8, .int v8)], [.long (σ.2 123 ((9 * v8) + v3).toNatClampNeg), .long v6], σ)) 12 rfl rfl (conj_c (rfl) (conj_c (⟨rfl, inB_in g2⟩) (trivial))) ?_
    obtain ⟨r3, σ3, hc, h⟩ := bd_some h
    refine Rc.call (Ev.mono d) (v := some (.long r3)) (as := [.long v6, .long (σ.2 123 ((9 * v8) + v3).toNatClampNeg)]) (r := []) 13 rfl rfl rfl rfl (Nat.le_of_ble_eq_true rfl) (m_common_s_ok (by omega) hc) ?_
    show Rc _ _ _ (81, [(0, .ref 117), (1, .int v1), (2, .int v2), (3, .int v3), (4, .long v4), (6, .long v6), (8, .int v8)], [.long r3], σ3) _
    refine Rc.blk (c := []) (s2 := (58, [(8, .int (v8 + 1)), (6, .long r3), (0, .ref 117), (1, .int v1), (2, .int v2), (3, .int v3), (4, .long v4)], [], σ3)) 14 rfl rfl (trivial) ?_
    refine Rc.pick [2, 3, 4, 5, 6, 1, 0] (lv2 := [(0, .ref 117), (1, .int v1), (2, .int v2), (3, .int v3), (4, .long v4), (6, .long r3), (8, .int (v8 + 1))]) rfl ?_
    exact hk58 _ _ _ _ _ _ _ _ _ h
theorem m_isHad_117_L58_ok {d : Nat} (hd : 2 ≤ d) : ∀ (n : Nat) (v1 : Int32) (v2 : Int32) (v3 : Int32) (v4 : Int64) (v6 : Int64) (v8 : Int32) (σ : Sg) (r : Int32) (σ2 : Sg), m_isHad_117_L58 n v1 v2 v3 v4 v6 v8 σ = some (r, σ2) → Rc none (Ev MT CT d) sg146 (58, [(0, .ref 117), (1, .int v1), (2, .int v2), (3, .int v3), (4, .long v4), (6, .long v6), (8, .int v8)], [], σ) (fun v s => v = some (.int r) ∧ s = σ2)
  | 0, _, _, _, _, _, _, _, _, _, h => by cases h
  | n + 1, v1, v2, v3, v4, v6, v8, σ, r, σ2, h => m_isHad_117_H58_ok hd (m_isHad_117_L58_ok hd n) v1 v2 v3 v4 v6 v8 σ r σ2 h
theorem m_isHad_117_H20_ok {d : Nat} (hd : 2 ≤ d) {k20 : Int32 → Int32 → Int32 → Int64 → Int32 → Sg → Option (Int32 × Sg)} (hk20 : ∀ (v1 : Int32) (v2 : Int32) (v3 : Int32) (v4 : Int64) (v6 : Int32) (σ : Sg) (r : Int32) (σ2 : Sg), k20 v1 v2 v3 v4 v6 σ = some (r, σ2) → Rc none (Ev MT CT d) sg146 (20, [(0, .ref 117), (1, .int v1), (2, .int v2), (3, .int v3), (4, .long v4), (6, .int v6)], [], σ) (fun v s => v = some (.int r) ∧ s = σ2)) (v1 : Int32) (v2 : Int32) (v3 : Int32) (v4 : Int64) (v6 : Int32) (σ : Sg) (r : Int32) (σ2 : Sg) (h : m_isHad_117_H20 k20 v1 v2 v3 v4 v6 σ = some (r, σ2)) : Rc none (Ev MT CT d) sg146 (20, [(0, .ref 117), (1, .int v1), (2, .int v2), (3, .int v3), (4, .long v4), (6, .int v6)], [], σ) (fun v s => v = some (.int r) ∧ s = σ2) := by
  unfold m_isHad_117_H20 at h
  refine Rc.blk (c := []) (s2 := (if 5 ≤ v6 then 51 else 26, [(0, .ref 117), (1, .int v1), (2, .int v2), (3, .int v3), (4, .long v4), (6, .int v6)], [], σ)) 5 rfl rfl (trivial) ?_
  by_cases c3 : 5 ≤ v6
  · rw [if_pos c3] at h
    refine Rc.ifp c3 ?_
    refine Rc.blk (c := []) (s2 := (58, [(8, .int 0), (6, .long v4), (0, .ref 117), (1, .int v1), (2, .int v2), (3, .int v3), (4, .long v4)], [], σ)) 10 rfl rfl (trivial) ?_
    refine Rc.pick [2, 3, 4, 5, 6, 1, 0] (lv2 := [(0, .ref 117), (1, .int v1), (2, .int v2), (3, .int v3), (4, .long v4), (6, .long v4), (8, .int 0)]) rfl ?_
    exact m_isHad_117_L58_ok hd fu _ _ _ _ _ _ _ _ _ h
  · rw [if_neg c3] at h
    refine Rc.ifn c3 ?_
    obtain ⟨g1, h⟩ := gd_some h
    refine Rc.blk (c := [_, _]) (s2 := (if (lg_cmp (σ.2 123 ((9 * v6) + v3).toNatClampNeg) 0) = 0 then 45 else 43, [(0, .ref 117), (1, .int v1), (2, .int v2), (3, .int v3), (4, .long v4), (6, .int v6)], [], σ)) 6 rfl rfl (conj_c (rfl) (conj_c (⟨rfl, inB_in g1⟩) (trivial))) ?_
    by_cases c2 : (lg_cmp (σ.2 123 ((9 * v6) + v3).toNatClampNeg) 0) = 0
    · rw [if_pos c2] at h
      refine Rc.ifp c2 ?_
      refine Rc.blk (c := []) (s2 := (20, [(6, .int (v6 + 1)), (0, .ref 117), (1, .int v1), (2, .int v2), (3, .int v3), (4, .long v4)], [], σ)) 9 rfl rfl (trivial) ?_
      refine Rc.pick [1, 2, 3, 4, 5, 0] (lv2 := [(0, .ref 117), (1, .int v1), (2, .int v2), (3, .int v3), (4, .long v4), (6, .int (v6 + 1))]) rfl ?_
      exact hk20 _ _ _ _ _ _ _ _ h
    · rw [if_neg c2] at h
      refine Rc.ifn c2 ?_
      refine Rc.blk (c := []) (s2 := (44, [(0, .ref 117), (1, .int v1), (2, .int v2), (3, .int v3), (4, .long v4), (6, .int v6)], [.int 0], σ)) 7 rfl rfl (trivial) ?_
      obtain ⟨rfl, rfl⟩ := some_pair h
      exact Rc.ret 8 rfl rfl rfl (Or.inl rfl) ⟨rfl, rfl⟩
theorem m_isHad_117_L20_ok {d : Nat} (hd : 2 ≤ d) : ∀ (n : Nat) (v1 : Int32) (v2 : Int32) (v3 : Int32) (v4 : Int64) (v6 : Int32) (σ : Sg) (r : Int32) (σ2 : Sg), m_isHad_117_L20 n v1 v2 v3 v4 v6 σ = some (r, σ2) → Rc none (Ev MT CT d) sg146 (20, [(0, .ref 117), (1, .int v1), (2, .int v2), (3, .int v3), (4, .long v4), (6, .int v6)], [], σ) (fun v s => v = some (.int r) ∧ s = σ2)
  | 0, _, _, _, _, _, _, _, _, h => by cases h
  | n + 1, v1, v2, v3, v4, v6, σ, r, σ2, h => m_isHad_117_H20_ok hd (m_isHad_117_L20_ok hd n) v1 v2 v3 v4 v6 σ r σ2 h
theorem m_isHad_117_ok {d : Nat} (hd : 3 ≤ d) {v1 : Int32} {v2 : Int32} {σ : Sg} {r : Int32} {σ2 : Sg} (h : m_isHad_117 v1 v2 σ = some (r, σ2)) : Ev MT CT d 146 [.ref 117, .int v1, .int v2] σ (fun v s => v = some (.int r) ∧ s = σ2) := by
  obtain ⟨d, rfl⟩ : ∃ e, d = e + 1 := ⟨d - 1, by omega⟩
  refine ⟨Nat.le_of_ble_eq_true rfl, ?_⟩
  show Rc none (Ev MT CT d) sg146 (0, [(0, .ref 117), (1, .int v1), (2, .int v2)], [], σ) _
  unfold m_isHad_117 at h
  have hd : 2 ≤ d := by omega
  refine Rc.blk (c := []) (s2 := (3, [(0, .ref 117), (1, .int v1), (2, .int v2)], [.int v2, .int v1, .ref 117], σ)) 0 rfl rfl (trivial) ?_
  obtain ⟨r1, σ1, hc, h⟩ := bd_some h
  refine Rc.call (Ev.mono d) (v := some (.int r1)) (as := [.ref 117, .int v1, .int v2]) (r := []) 1 rfl rfl rfl rfl ⟨rfl, Nat.le_of_ble_eq_true rfl⟩ (m_lays2_117_ok (by omega) hc) ?_
  show Rc _ _ _ (6, [(0, .ref 117), (1, .int v1), (2, .int v2)], [.int r1], σ1) _
  refine Rc.blk (c := []) (s2 := (12, [(3, .int r1), (0, .ref 117), (1, .int v1), (2, .int v2)], [.int (r1 + 1), .int r1, .ref 117], σ1)) 2 rfl rfl (trivial) ?_
  obtain ⟨r2, σ2, hc, h⟩ := bd_some h
  refine Rc.call (Ev.mono d) (v := some (.long r2)) (as := [.ref 117, .int r1, .int (r1 + 1)]) (r := []) 3 rfl rfl rfl rfl ⟨rfl, Nat.le_of_ble_eq_true rfl⟩ (m_clears_117_ok (by omega) hc) ?_
  show Rc _ _ _ (15, [(3, .int r1), (0, .ref 117), (1, .int v1), (2, .int v2)], [.long r2], σ2) _
  refine Rc.blk (c := []) (s2 := (20, [(6, .int r1), (4, .long r2), (3, .int r1), (0, .ref 117), (1, .int v1), (2, .int v2)], [], σ2)) 4 rfl rfl (trivial) ?_
  refine Rc.pick [3, 4, 5, 2, 1, 0] (lv2 := [(0, .ref 117), (1, .int v1), (2, .int v2), (3, .int r1), (4, .long r2), (6, .int r1)]) rfl ?_
  exact m_isHad_117_L20_ok hd fu _ _ _ _ _ _ _ _ h
theorem m_firm_117_b31_ok {d : Nat} (hd : 3 ≤ d) {k4 : Int32 → Int32 → Sg → Option (Int32 × Sg)} (hk4 : ∀ (v1 : Int32) (v2 : Int32) (σ : Sg) (r : Int32) (σ2 : Sg), k4 v1 v2 σ = some (r, σ2) → Rc none (Ev MT CT d) sg147 (4, [(0, .ref 117), (1, .int v1), (2, .int v2)], [], σ) (fun v s => v = some (.int r) ∧ s = σ2)) (v2 : Int32) (s0 : Int32) (s1 : Int32) (σ : Sg) (r : Int32) (σ2 : Sg) (h : m_firm_117_b31 k4 v2 s0 s1 σ = some (r, σ2)) : Rc none (Ev MT CT d) sg147 (31, [(0, .ref 117), (2, .int v2)], [.int s1, .int s0], σ) (fun v s => v = some (.int r) ∧ s = σ2) := by
  unfold m_firm_117_b31 at h
  refine Rc.blk (c := []) (s2 := (4, [(2, .int (v2 + 1)), (1, .int (s0 ||| s1)), (0, .ref 117)], [], σ)) 7 rfl rfl (trivial) ?_
  refine Rc.pick [2, 1, 0] (lv2 := [(0, .ref 117), (1, .int (s0 ||| s1)), (2, .int (v2 + 1))]) rfl ?_
  exact hk4 _ _ _ _ _ h
theorem m_firm_117_H4_ok {d : Nat} (hd : 3 ≤ d) {k4 : Int32 → Int32 → Sg → Option (Int32 × Sg)} (hk4 : ∀ (v1 : Int32) (v2 : Int32) (σ : Sg) (r : Int32) (σ2 : Sg), k4 v1 v2 σ = some (r, σ2) → Rc none (Ev MT CT d) sg147 (4, [(0, .ref 117), (1, .int v1), (2, .int v2)], [], σ) (fun v s => v = some (.int r) ∧ s = σ2)) (v1 : Int32) (v2 : Int32) (σ : Sg) (r : Int32) (σ2 : Sg) (h : m_firm_117_H4 k4 v1 v2 σ = some (r, σ2)) : Rc none (Ev MT CT d) sg147 (4, [(0, .ref 117), (1, .int v1), (2, .int v2)], [], σ) (fun v s => v = some (.int r) ∧ s = σ2) := by
  unfold m_firm_117_H4 at h
  refine Rc.blk (c := [_, _]) (s2 := (if (σ.1 118 0) ≤ v2 then 39 else 14, [(0, .ref 117), (1, .int v1), (2, .int v2)], [], σ)) 1 rfl rfl (conj_c (rfl) (conj_c (⟨rfl, inB_in (by decide)⟩) (trivial))) ?_
  by_cases c3 : (σ.1 118 0) ≤ v2
  · rw [if_pos c3] at h
    refine Rc.ifp c3 ?_
    refine Rc.blk (c := []) (s2 := (40, [(0, .ref 117), (1, .int v1), (2, .int v2)], [.int v1], σ)) 8 rfl rfl (trivial) ?_
    obtain ⟨rfl, rfl⟩ := some_pair h
    exact Rc.ret 9 rfl rfl rfl trivial ⟨rfl, rfl⟩
  · rw [if_neg c3] at h
    refine Rc.ifn c3 ?_
    refine Rc.blk (c := []) (s2 := (18, [(0, .ref 117), (1, .int v1), (2, .int v2)], [.int v2, .int v1, .ref 117, .int v1], σ)) 2 rfl rfl (trivial) ?_
    obtain ⟨r1, σ1, hc, h⟩ := bd_some h
    refine Rc.call (Ev.mono d) (v := some (.int r1)) (as := [.ref 117, .int v1, .int v2]) (r := [.int v1]) 3 rfl rfl rfl rfl ⟨rfl, Nat.le_of_ble_eq_true rfl⟩ (m_isHad_117_ok (by omega) hc) ?_
    show Rc _ _ _ (21, [(0, .ref 117), (1, .int v1), (2, .int v2)], [.int r1, .int v1], σ1) _
    refine Rc.blk (c := []) (s2 := (if r1 = 0 then 28 else 24, [(0, .ref 117), (1, .int v1), (2, .int v2)], [.int v1], σ1)) 4 rfl rfl (trivial) ?_
    by_cases c2 : r1 = 0
    · rw [if_pos c2] at h
      refine Rc.ifp c2 ?_
      refine Rc.blk (c := []) (s2 := (31, [(0, .ref 117), (1, .int v1), (2, .int v2)], [.int ((1 : Int32) <<< (v2 &&& 31)), .int v1], σ1)) 6 rfl rfl (trivial) ?_
      refine Rc.pick [0, 2] (lv2 := [(0, .ref 117), (2, .int v2)]) rfl ?_
      exact m_firm_117_b31_ok hd hk4 _ _ _ _ _ _ h
    · rw [if_neg c2] at h
      refine Rc.ifn c2 ?_
      refine Rc.blk (c := []) (s2 := (31, [(0, .ref 117), (1, .int v1), (2, .int v2)], [.int 0, .int v1], σ1)) 5 rfl rfl (trivial) ?_
      refine Rc.pick [0, 2] (lv2 := [(0, .ref 117), (2, .int v2)]) rfl ?_
      exact m_firm_117_b31_ok hd hk4 _ _ _ _ _ _ h
theorem m_firm_117_L4_ok {d : Nat} (hd : 3 ≤ d) : ∀ (n : Nat) (v1 : Int32) (v2 : Int32) (σ : Sg) (r : Int32) (σ2 : Sg), m_firm_117_L4 n v1 v2 σ = some (r, σ2) → Rc none (Ev MT CT d) sg147 (4, [(0, .ref 117), (1, .int v1), (2, .int v2)], [], σ) (fun v s => v = some (.int r) ∧ s = σ2)
  | 0, _, _, _, _, _, h => by cases h
  | n + 1, v1, v2, σ, r, σ2, h => m_firm_117_H4_ok hd (m_firm_117_L4_ok hd n) v1 v2 σ r σ2 h
theorem m_firm_117_ok {d : Nat} (hd : 4 ≤ d) {σ : Sg} {r : Int32} {σ2 : Sg} (h : m_firm_117 σ = some (r, σ2)) : Ev MT CT d 147 [.ref 117] σ (fun v s => v = some (.int r) ∧ s = σ2) := by
  obtain ⟨d, rfl⟩ : ∃ e, d = e + 1 := ⟨d - 1, by omega⟩
  refine ⟨Nat.le_of_ble_eq_true rfl, ?_⟩
  show Rc none (Ev MT CT d) sg147 (0, [(0, .ref 117)], [], σ) _
  unfold m_firm_117 at h
  have hd : 3 ≤ d := by omega
  refine Rc.blk (c := []) (s2 := (4, [(2, .int 0), (1, .int 0), (0, .ref 117)], [], σ)) 0 rfl rfl (trivial) ?_
  refine Rc.pick [2, 1, 0] (lv2 := [(0, .ref 117), (1, .int 0), (2, .int 0)]) rfl ?_
  exact m_firm_117_L4_ok hd fu _ _ _ _ _ h
theorem m_isPure_117_b24_ok {d : Nat} (hd : 1 ≤ d) {k4 : Int32 → Int32 → Int32 → Sg → Option (Int32 × Sg)} (hk4 : ∀ (v1 : Int32) (v2 : Int32) (v3 : Int32) (σ : Sg) (r : Int32) (σ2 : Sg), k4 v1 v2 v3 σ = some (r, σ2) → Rc none (Ev MT CT d) sg135 (4, [(0, .ref 117), (1, .int v1), (2, .int v2), (3, .int v3)], [], σ) (fun v s => v = some (.int r) ∧ s = σ2)) (v1 : Int32) (v3 : Int32) (s0 : Int32) (s1 : Int32) (σ : Sg) (r : Int32) (σ2 : Sg) (h : m_isPure_117_b24 k4 v1 v3 s0 s1 σ = some (r, σ2)) : Rc none (Ev MT CT d) sg135 (24, [(0, .ref 117), (1, .int v1), (3, .int v3)], [.int s1, .int s0], σ) (fun v s => v = some (.int r) ∧ s = σ2) := by
  unfold m_isPure_117_b24 at h
  refine Rc.blk (c := []) (s2 := (4, [(3, .int (v3 + 1)), (2, .int (s0 &&& s1)), (0, .ref 117), (1, .int v1)], [], σ)) 7 rfl rfl (trivial) ?_
  refine Rc.pick [2, 3, 1, 0] (lv2 := [(0, .ref 117), (1, .int v1), (2, .int (s0 &&& s1)), (3, .int (v3 + 1))]) rfl ?_
  exact hk4 _ _ _ _ _ _ h
theorem m_isPure_117_H4_ok {d : Nat} (hd : 1 ≤ d) {k4 : Int32 → Int32 → Int32 → Sg → Option (Int32 × Sg)} (hk4 : ∀ (v1 : Int32) (v2 : Int32) (v3 : Int32) (σ : Sg) (r : Int32) (σ2 : Sg), k4 v1 v2 v3 σ = some (r, σ2) → Rc none (Ev MT CT d) sg135 (4, [(0, .ref 117), (1, .int v1), (2, .int v2), (3, .int v3)], [], σ) (fun v s => v = some (.int r) ∧ s = σ2)) (v1 : Int32) (v2 : Int32) (v3 : Int32) (σ : Sg) (r : Int32) (σ2 : Sg) (h : m_isPure_117_H4 k4 v1 v2 v3 σ = some (r, σ2)) : Rc none (Ev MT CT d) sg135 (4, [(0, .ref 117), (1, .int v1), (2, .int v2), (3, .int v3)], [], σ) (fun v s => v = some (.int r) ∧ s = σ2) := by
  unfold m_isPure_117_H4 at h
  refine Rc.blk (c := []) (s2 := (if 5 ≤ v3 then 32 else 9, [(0, .ref 117), (1, .int v1), (2, .int v2), (3, .int v3)], [], σ)) 1 rfl rfl (trivial) ?_
  by_cases c3 : 5 ≤ v3
  · rw [if_pos c3] at h
    refine Rc.ifp c3 ?_
    refine Rc.blk (c := []) (s2 := (33, [(0, .ref 117), (1, .int v1), (2, .int v2), (3, .int v3)], [.int v2], σ)) 8 rfl rfl (trivial) ?_
    obtain ⟨g, h⟩ := gd_some h
    obtain ⟨rfl, rfl⟩ := some_pair h
    exact Rc.ret 9 rfl rfl rfl (nbB_ok g) ⟨rfl, rfl⟩
  · rw [if_neg c3] at h
    refine Rc.ifn c3 ?_
    refine Rc.blk (c := []) (s2 := (13, [(0, .ref 117), (1, .int v1), (2, .int v2), (3, .int v3)], [.int v3, .int v1, .ref 117, .int v2], σ)) 2 rfl rfl (trivial) ?_
    obtain ⟨r1, σ1, hc, h⟩ := bd_some h
    refine Rc.call (Ev.mono d) (v := some (.int r1)) (as := [.ref 117, .int v1, .int v3]) (r := [.int v2]) 3 rfl rfl rfl rfl ⟨rfl, Nat.le_of_ble_eq_true rfl⟩ (m_powerOf_117_ok (by omega) hc) ?_
    show Rc _ _ _ (16, [(0, .ref 117), (1, .int v1), (2, .int v2), (3, .int v3)], [.int r1, .int v2], σ1) _
    refine Rc.blk (c := []) (s2 := (if ¬ r1 = 0 then 23 else 19, [(0, .ref 117), (1, .int v1), (2, .int v2), (3, .int v3)], [.int v2], σ1)) 4 rfl rfl (trivial) ?_
    by_cases c2 : r1 = 0
    · rw [if_pos c2] at h
      refine Rc.ifn (fun q => q c2) ?_
      refine Rc.blk (c := []) (s2 := (24, [(0, .ref 117), (1, .int v1), (2, .int v2), (3, .int v3)], [.int 1, .int v2], σ1)) 5 rfl rfl (trivial) ?_
      refine Rc.pick [0, 1, 3] (lv2 := [(0, .ref 117), (1, .int v1), (3, .int v3)]) rfl ?_
      exact m_isPure_117_b24_ok hd hk4 _ _ _ _ _ _ _ h
    · rw [if_neg c2] at h
      refine Rc.ifp c2 ?_
      refine Rc.blk (c := []) (s2 := (24, [(0, .ref 117), (1, .int v1), (2, .int v2), (3, .int v3)], [.int 0, .int v2], σ1)) 6 rfl rfl (trivial) ?_
      refine Rc.pick [0, 1, 3] (lv2 := [(0, .ref 117), (1, .int v1), (3, .int v3)]) rfl ?_
      exact m_isPure_117_b24_ok hd hk4 _ _ _ _ _ _ _ h
theorem m_isPure_117_L4_ok {d : Nat} (hd : 1 ≤ d) : ∀ (n : Nat) (v1 : Int32) (v2 : Int32) (v3 : Int32) (σ : Sg) (r : Int32) (σ2 : Sg), m_isPure_117_L4 n v1 v2 v3 σ = some (r, σ2) → Rc none (Ev MT CT d) sg135 (4, [(0, .ref 117), (1, .int v1), (2, .int v2), (3, .int v3)], [], σ) (fun v s => v = some (.int r) ∧ s = σ2)
  | 0, _, _, _, _, _, _, h => by cases h
  | n + 1, v1, v2, v3, σ, r, σ2, h => m_isPure_117_H4_ok hd (m_isPure_117_L4_ok hd n) v1 v2 v3 σ r σ2 h
theorem m_isPure_117_ok {d : Nat} (hd : 2 ≤ d) {v1 : Int32} {σ : Sg} {r : Int32} {σ2 : Sg} (h : m_isPure_117 v1 σ = some (r, σ2)) : Ev MT CT d 135 [.ref 117, .int v1] σ (fun v s => v = some (.int r) ∧ s = σ2) := by
  obtain ⟨d, rfl⟩ : ∃ e, d = e + 1 := ⟨d - 1, by omega⟩
  refine ⟨Nat.le_of_ble_eq_true rfl, ?_⟩
  show Rc none (Ev MT CT d) sg135 (0, [(0, .ref 117), (1, .int v1)], [], σ) _
  unfold m_isPure_117 at h
  have hd : 1 ≤ d := by omega
  refine Rc.blk (c := []) (s2 := (4, [(3, .int 0), (2, .int 1), (0, .ref 117), (1, .int v1)], [], σ)) 0 rfl rfl (trivial) ?_
  refine Rc.pick [2, 3, 1, 0] (lv2 := [(0, .ref 117), (1, .int v1), (2, .int 1), (3, .int 0)]) rfl ?_
  exact m_isPure_117_L4_ok hd fu _ _ _ _ _ _ h
theorem m_of_117_b130_ok {d : Nat} (hd : 4 ≤ d) (s0 : Int32) (σ : Sg) (r : Int32) (σ2 : Sg) (h : m_of_117_b130 s0 σ = some (r, σ2)) : Rc none (Ev MT CT d) sg138 (130, [], [.int s0], σ) (fun v s => v = some (.int r) ∧ s = σ2) := by
  unfold m_of_117_b130 at h
  obtain ⟨rfl, rfl⟩ := some_pair h
  exact Rc.ret 38 rfl rfl rfl trivial ⟨rfl, rfl⟩
theorem m_of_117_b67_ok {d : Nat} (hd : 4 ≤ d) (s0 : Int32) (σ : Sg) (r : Int32) (σ2 : Sg) (h : m_of_117_b67 s0 σ = some (r, σ2)) : Rc none (Ev MT CT d) sg138 (67, [], [.int s0], σ) (fun v s => v = some (.int r) ∧ s = σ2) := by
  unfold m_of_117_b67 at h
  obtain ⟨rfl, rfl⟩ := some_pair h
  exact Rc.ret 24 rfl rfl rfl trivial ⟨rfl, rfl⟩
theorem m_of_117_b48_ok {d : Nat} (hd : 4 ≤ d) (s0 : Int32) (σ : Sg) (r : Int32) (σ2 : Sg) (h : m_of_117_b48 s0 σ = some (r, σ2)) : Rc none (Ev MT CT d) sg138 (48, [], [.int s0], σ) (fun v s => v = some (.int r) ∧ s = σ2) := by
  unfold m_of_117_b48 at h
  obtain ⟨rfl, rfl⟩ := some_pair h
  exact Rc.ret 17 rfl rfl rfl trivial ⟨rfl, rfl⟩
theorem m_of_117_ok {d : Nat} (hd : 5 ≤ d) {v1 : Int32} {v2 : Int32} {σ : Sg} {r : Int32} {σ2 : Sg} (h : m_of_117 v1 v2 σ = some (r, σ2)) : Ev MT CT d 138 [.ref 117, .int v1, .int v2] σ (fun v s => v = some (.int r) ∧ s = σ2) := by
  obtain ⟨d, rfl⟩ : ∃ e, d = e + 1 := ⟨d - 1, by omega⟩
  refine ⟨Nat.le_of_ble_eq_true rfl, ?_⟩
  show Rc none (Ev MT CT d) sg138 (0, [(0, .ref 117), (1, .int v1), (2, .int v2)], [], σ) _
  unfold m_of_117 at h
  have hd : 4 ≤ d := by omega
  refine Rc.blk (c := []) (s2 := (2, [(0, .ref 117), (1, .int v1), (2, .int v2)], [.int v1, .ref 117], σ)) 0 rfl rfl (trivial) ?_
  obtain ⟨r1, σ1, hc, h⟩ := bd_some h
  refine Rc.call (Ev.mono d) (v := some (.int r1)) (as := [.ref 117, .int v1]) (r := []) 1 rfl rfl rfl rfl ⟨rfl, Nat.le_of_ble_eq_true rfl⟩ (m_isOne_117_ok (by omega) hc) ?_
  show Rc _ _ _ (5, [(0, .ref 117), (1, .int v1), (2, .int v2)], [.int r1], σ1) _
  refine Rc.blk (c := []) (s2 := (if ¬ r1 = 0 then 14 else 8, [(0, .ref 117), (1, .int v1), (2, .int v2)], [], σ1)) 2 rfl rfl (trivial) ?_
  by_cases c19 : r1 = 0
  · rw [if_pos c19] at h
    refine Rc.ifn (fun q => q c19) ?_
    refine Rc.blk (c := []) (s2 := (10, [(0, .ref 117), (1, .int v1), (2, .int v2)], [.int 1, .ref 117], σ1)) 3 rfl rfl (trivial) ?_
    obtain ⟨r18, σ18, hc, h⟩ := bd_some h
    refine Rc.call (Ev.mono d) (v := some (.int r18)) (as := [.ref 117, .int 1]) (r := []) 4 rfl rfl rfl rfl ⟨rfl, Nat.le_of_ble_eq_true rfl⟩ (m_refuseFar_117_ok (by omega) hc) ?_
    show Rc _ _ _ (13, [(0, .ref 117), (1, .int v1), (2, .int v2)], [.int r18], σ18) _
    obtain ⟨rfl, rfl⟩ := some_pair h
    exact Rc.ret 5 rfl rfl rfl trivial ⟨rfl, rfl⟩
  · rw [if_neg c19] at h
    refine Rc.ifp c19 ?_
    refine Rc.blk (c := []) (s2 := (if ¬ v2 = 0 then 27 else 18, [(0, .ref 117), (1, .int v1), (2, .int v2)], [], σ1)) 6 rfl rfl (trivial) ?_
    by_cases c17 : v2 = 0
    · rw [if_pos c17] at h
      refine Rc.ifn (fun q => q c17) ?_
      obtain ⟨g16, h⟩ := gd_some h
      refine Rc.blk (c := [_, _]) (s2 := (26, [(0, .ref 117), (1, .int v1), (2, .int v2)], [.int (σ1.1 118 (1 + v1).toNatClampNeg)], σ1)) 7 rfl rfl (conj_c (rfl) (conj_c (⟨rfl, inB_in g16⟩) (trivial))) ?_
      obtain ⟨rfl, rfl⟩ := some_pair h
      exact Rc.ret 8 rfl rfl rfl trivial ⟨rfl, rfl⟩
    · rw [if_neg c17] at h
      refine Rc.ifp c17 ?_
      refine Rc.blk (c := []) (s2 := (if ¬ v2 = 1 then 49 else 32, [(0, .ref 117), (1, .int v1), (2, .int v2)], [], σ1)) 9 rfl rfl (trivial) ?_
      by_cases c15 : v2 = 1
      · rw [if_pos c15] at h
        refine Rc.ifn (fun q => q c15) ?_
        refine Rc.blk (c := []) (s2 := (33, [(0, .ref 117), (1, .int v1), (2, .int v2)], [.ref 117], σ1)) 10 rfl rfl (trivial) ?_
        obtain ⟨r12, σ12, hc, h⟩ := bd_some h
        refine Rc.call (Ev.mono d) (v := some (.int r12)) (as := [.ref 117]) (r := []) 11 rfl rfl rfl rfl ⟨rfl, Nat.le_of_ble_eq_true rfl⟩ (m_firm_117_ok (by omega) hc) ?_
        show Rc _ _ _ (36, [(0, .ref 117), (1, .int v1), (2, .int v2)], [.int r12], σ12) _
        refine Rc.blk (c := []) (s2 := (37, [(0, .ref 117), (1, .int v1), (2, .int v2)], [.int v1, .int r12], σ12)) 12 rfl rfl (trivial) ?_
        obtain ⟨r13, σ13, hc, h⟩ := bd_some h
        refine Rc.call (Ev.mono d) (v := some (.int r13)) (as := [.int r12, .int v1]) (r := []) 13 rfl rfl rfl rfl (Nat.le_of_ble_eq_true rfl) (m_has_s_ok (by omega) hc) ?_
        show Rc _ _ _ (40, [(0, .ref 117), (1, .int v1), (2, .int v2)], [.int r13], σ13) _
        refine Rc.blk (c := []) (s2 := (if r13 = 0 then 47 else 43, [(0, .ref 117), (1, .int v1), (2, .int v2)], [], σ13)) 14 rfl rfl (trivial) ?_
        by_cases c14 : r13 = 0
        · rw [if_pos c14] at h
          refine Rc.ifp c14 ?_
          refine Rc.blk (c := []) (s2 := (48, [(0, .ref 117), (1, .int v1), (2, .int v2)], [.int 1], σ13)) 16 rfl rfl (trivial) ?_
          refine Rc.pick [] (lv2 := []) rfl ?_
          exact m_of_117_b48_ok hd _ _ _ _ h
        · rw [if_neg c14] at h
          refine Rc.ifn c14 ?_
          refine Rc.blk (c := []) (s2 := (48, [(0, .ref 117), (1, .int v1), (2, .int v2)], [.int 0], σ13)) 15 rfl rfl (trivial) ?_
          refine Rc.pick [] (lv2 := []) rfl ?_
          exact m_of_117_b48_ok hd _ _ _ _ h
      · rw [if_neg c15] at h
        refine Rc.ifp c15 ?_
        refine Rc.blk (c := []) (s2 := (if ¬ v2 = 2 then 68 else 54, [(0, .ref 117), (1, .int v1), (2, .int v2)], [], σ1)) 18 rfl rfl (trivial) ?_
        by_cases c11 : v2 = 2
        · rw [if_pos c11] at h
          refine Rc.ifn (fun q => q c11) ?_
          refine Rc.blk (c := []) (s2 := (56, [(0, .ref 117), (1, .int v1), (2, .int v2)], [.int v1, .ref 117], σ1)) 19 rfl rfl (trivial) ?_
          obtain ⟨r9, σ9, hc, h⟩ := bd_some h
          refine Rc.call (Ev.mono d) (v := some (.int r9)) (as := [.ref 117, .int v1]) (r := []) 20 rfl rfl rfl rfl ⟨rfl, Nat.le_of_ble_eq_true rfl⟩ (m_isPure_117_ok (by omega) hc) ?_
          show Rc _ _ _ (59, [(0, .ref 117), (1, .int v1), (2, .int v2)], [.int r9], σ9) _
          refine Rc.blk (c := []) (s2 := (if r9 = 0 then 66 else 62, [(0, .ref 117), (1, .int v1), (2, .int v2)], [], σ9)) 21 rfl rfl (trivial) ?_
          by_cases c10 : r9 = 0
          · rw [if_pos c10] at h
            refine Rc.ifp c10 ?_
            refine Rc.blk (c := []) (s2 := (67, [(0, .ref 117), (1, .int v1), (2, .int v2)], [.int 0], σ9)) 23 rfl rfl (trivial) ?_
            refine Rc.pick [] (lv2 := []) rfl ?_
            exact m_of_117_b67_ok hd _ _ _ _ h
          · rw [if_neg c10] at h
            refine Rc.ifn c10 ?_
            refine Rc.blk (c := []) (s2 := (67, [(0, .ref 117), (1, .int v1), (2, .int v2)], [.int 1], σ9)) 22 rfl rfl (trivial) ?_
            refine Rc.pick [] (lv2 := []) rfl ?_
            exact m_of_117_b67_ok hd _ _ _ _ h
        · rw [if_neg c11] at h
          refine Rc.ifp c11 ?_
          refine Rc.blk (c := []) (s2 := (76, [(0, .ref 117), (1, .int v1), (2, .int v2)], [.long 14, .long 10, .long v2.toInt64], σ1)) 25 rfl rfl (trivial) ?_
          obtain ⟨r2, σ2, hc, h⟩ := bd_some h
          refine Rc.call (Ev.mono d) (v := some (.int r2)) (as := [.long v2.toInt64, .long 10, .long 14]) (r := []) 26 rfl rfl rfl rfl (Nat.le_of_ble_eq_true rfl) (m_isIn_s_ok (by omega) hc) ?_
          show Rc _ _ _ (79, [(0, .ref 117), (1, .int v1), (2, .int v2)], [.int r2], σ2) _
          refine Rc.blk (c := []) (s2 := (if r2 = 0 then 99 else 82, [(0, .ref 117), (1, .int v1), (2, .int v2)], [], σ2)) 27 rfl rfl (trivial) ?_
          by_cases c8 : r2 = 0
          · rw [if_pos c8] at h
            refine Rc.ifp c8 ?_
            refine Rc.blk (c := []) (s2 := (107, [(0, .ref 117), (1, .int v1), (2, .int v2)], [.long 24, .long 20, .long v2.toInt64], σ2)) 30 rfl rfl (trivial) ?_
            obtain ⟨r3, σ3, hc, h⟩ := bd_some h
            refine Rc.call (Ev.mono d) (v := some (.int r3)) (as := [.long v2.toInt64, .long 20, .long 24]) (r := []) 31 rfl rfl rfl rfl (Nat.le_of_ble_eq_true rfl) (m_isIn_s_ok (by omega) hc) ?_
            show Rc _ _ _ (110, [(0, .ref 117), (1, .int v1), (2, .int v2)], [.int r3], σ3) _
            refine Rc.blk (c := []) (s2 := (if r3 = 0 then 125 else 113, [(0, .ref 117), (1, .int v1), (2, .int v2)], [], σ3)) 32 rfl rfl (trivial) ?_
            by_cases c6 : r3 = 0
            · rw [if_pos c6] at h
              refine Rc.ifp c6 ?_
              refine Rc.blk (c := []) (s2 := (127, [(0, .ref 117), (1, .int v1), (2, .int v2)], [.int 2, .ref 117], σ3)) 36 rfl rfl (trivial) ?_
              obtain ⟨r4, σ4, hc, h⟩ := bd_some h
              refine Rc.call (Ev.mono d) (v := some (.int r4)) (as := [.ref 117, .int 2]) (r := []) 37 rfl rfl rfl rfl ⟨rfl, Nat.le_of_ble_eq_true rfl⟩ (m_refuseFar_117_ok (by omega) hc) ?_
              show Rc _ _ _ (130, [(0, .ref 117), (1, .int v1), (2, .int v2)], [.int r4], σ4) _
              refine Rc.pick [] (lv2 := []) rfl ?_
              exact m_of_117_b130_ok hd _ _ _ _ h
            · rw [if_neg c6] at h
              refine Rc.ifn c6 ?_
              refine Rc.blk (c := []) (s2 := (119, [(0, .ref 117), (1, .int v1), (2, .int v2)], [.int (v2 - 20), .int v1, .ref 117], σ3)) 33 rfl rfl (trivial) ?_
              obtain ⟨r5, σ5, hc, h⟩ := bd_some h
              refine Rc.call (Ev.mono d) (v := some (.int r5)) (as := [.ref 117, .int v1, .int (v2 - 20)]) (r := []) 34 rfl rfl rfl rfl ⟨rfl, Nat.le_of_ble_eq_true rfl⟩ (m_powerOf_117_ok (by omega) hc) ?_
              show Rc _ _ _ (122, [(0, .ref 117), (1, .int v1), (2, .int v2)], [.int r5], σ5) _
              refine Rc.blk (c := []) (s2 := (130, [(0, .ref 117), (1, .int v1), (2, .int v2)], [.int r5], σ5)) 35 rfl rfl (trivial) ?_
              refine Rc.pick [] (lv2 := []) rfl ?_
              exact m_of_117_b130_ok hd _ _ _ _ h
          · rw [if_neg c8] at h
            refine Rc.ifn c8 ?_
            obtain ⟨g7, h⟩ := gd_some h
            refine Rc.blk (c := [_, _]) (s2 := (98, [(0, .ref 117), (1, .int v1), (2, .int v2)], [.int (σ2.1 118 (((9 + (5 * v1)) + v2) - 10).toNatClampNeg)], σ2)) 28 rfl rfl (conj_c (rfl) (conj_c (⟨rfl, inB_in g7⟩) (trivial))) ?_
            obtain ⟨rfl, rfl⟩ := some_pair h
            exact Rc.ret 29 rfl rfl rfl trivial ⟨rfl, rfl⟩
theorem m_isLike_117_b34_ok {d : Nat} (hd : 1 ≤ d) {k5 : Int32 → Int32 → Int32 → Int32 → Sg → Option (Int32 × Sg)} (hk5 : ∀ (v1 : Int32) (v2 : Int32) (v3 : Int32) (v4 : Int32) (σ : Sg) (r : Int32) (σ2 : Sg), k5 v1 v2 v3 v4 σ = some (r, σ2) → Rc none (Ev MT CT d) sg136 (5, [(0, .ref 117), (1, .int v1), (2, .int v2), (3, .int v3), (4, .int v4)], [], σ) (fun v s => v = some (.int r) ∧ s = σ2)) (v1 : Int32) (v2 : Int32) (v4 : Int32) (s0 : Int32) (s1 : Int32) (σ : Sg) (r : Int32) (σ2 : Sg) (h : m_isLike_117_b34 k5 v1 v2 v4 s0 s1 σ = some (r, σ2)) : Rc none (Ev MT CT d) sg136 (34, [(0, .ref 117), (1, .int v1), (2, .int v2), (4, .int v4)], [.int s1, .int s0], σ) (fun v s => v = some (.int r) ∧ s = σ2) := by
  unfold m_isLike_117_b34 at h
  refine Rc.blk (c := []) (s2 := (5, [(4, .int (v4 + 1)), (3, .int (s0 &&& s1)), (0, .ref 117), (1, .int v1), (2, .int v2)], [], σ)) 9 rfl rfl (trivial) ?_
  refine Rc.pick [2, 3, 4, 1, 0] (lv2 := [(0, .ref 117), (1, .int v1), (2, .int v2), (3, .int (s0 &&& s1)), (4, .int (v4 + 1))]) rfl ?_
  exact hk5 _ _ _ _ _ _ _ h
theorem m_isLike_117_H5_ok {d : Nat} (hd : 1 ≤ d) {k5 : Int32 → Int32 → Int32 → Int32 → Sg → Option (Int32 × Sg)} (hk5 : ∀ (v1 : Int32) (v2 : Int32) (v3 : Int32) (v4 : Int32) (σ : Sg) (r : Int32) (σ2 : Sg), k5 v1 v2 v3 v4 σ = some (r, σ2) → Rc none (Ev MT CT d) sg136 (5, [(0, .ref 117), (1, .int v1), (2, .int v2), (3, .int v3), (4, .int v4)], [], σ) (fun v s => v = some (.int r) ∧ s = σ2)) (v1 : Int32) (v2 : Int32) (v3 : Int32) (v4 : Int32) (σ : Sg) (r : Int32) (σ2 : Sg) (h : m_isLike_117_H5 k5 v1 v2 v3 v4 σ = some (r, σ2)) : Rc none (Ev MT CT d) sg136 (5, [(0, .ref 117), (1, .int v1), (2, .int v2), (3, .int v3), (4, .int v4)], [], σ) (fun v s => v = some (.int r) ∧ s = σ2) := by
  unfold m_isLike_117_H5 at h
  refine Rc.blk (c := []) (s2 := (if 5 ≤ v4 then 42 else 11, [(0, .ref 117), (1, .int v1), (2, .int v2), (3, .int v3), (4, .int v4)], [], σ)) 1 rfl rfl (trivial) ?_
  by_cases c4 : 5 ≤ v4
  · rw [if_pos c4] at h
    refine Rc.ifp c4 ?_
    refine Rc.blk (c := []) (s2 := (43, [(0, .ref 117), (1, .int v1), (2, .int v2), (3, .int v3), (4, .int v4)], [.int v3], σ)) 10 rfl rfl (trivial) ?_
    obtain ⟨g, h⟩ := gd_some h
    obtain ⟨rfl, rfl⟩ := some_pair h
    exact Rc.ret 11 rfl rfl rfl (nbB_ok g) ⟨rfl, rfl⟩
  · rw [if_neg c4] at h
    refine Rc.ifn c4 ?_
    refine Rc.blk (c := []) (s2 := (16, [(0, .ref 117), (1, .int v1), (2, .int v2), (3, .int v3), (4, .int v4)], [.int v4, .int v1, .ref 117, .int v3], σ)) 2 rfl rfl (trivial) ?_
    obtain ⟨r1, σ1, hc, h⟩ := bd_some h
    refine Rc.call (Ev.mono d) (v := some (.int r1)) (as := [.ref 117, .int v1, .int v4]) (r := [.int v3]) 3 rfl rfl rfl rfl ⟨rfl, Nat.le_of_ble_eq_true rfl⟩ (m_powerOf_117_ok (by omega) hc) ?_
    show Rc _ _ _ (19, [(0, .ref 117), (1, .int v1), (2, .int v2), (3, .int v3), (4, .int v4)], [.int r1, .int v3], σ1) _
    refine Rc.blk (c := []) (s2 := (23, [(0, .ref 117), (1, .int v1), (2, .int v2), (3, .int v3), (4, .int v4)], [.int v4, .int v2, .ref 117, .int r1, .int v3], σ1)) 4 rfl rfl (trivial) ?_
    obtain ⟨r2, σ2, hc, h⟩ := bd_some h
    refine Rc.call (Ev.mono d) (v := some (.int r2)) (as := [.ref 117, .int v2, .int v4]) (r := [.int r1, .int v3]) 5 rfl rfl rfl rfl ⟨rfl, Nat.le_of_ble_eq_true rfl⟩ (m_powerOf_117_ok (by omega) hc) ?_
    show Rc _ _ _ (26, [(0, .ref 117), (1, .int v1), (2, .int v2), (3, .int v3), (4, .int v4)], [.int r2, .int r1, .int v3], σ2) _
    refine Rc.blk (c := []) (s2 := (if ¬ r1 = r2 then 33 else 29, [(0, .ref 117), (1, .int v1), (2, .int v2), (3, .int v3), (4, .int v4)], [.int v3], σ2)) 6 rfl rfl (trivial) ?_
    by_cases c3 : r1 = r2
    · rw [if_pos c3] at h
      refine Rc.ifn (fun q => q c3) ?_
      refine Rc.blk (c := []) (s2 := (34, [(0, .ref 117), (1, .int v1), (2, .int v2), (3, .int v3), (4, .int v4)], [.int 1, .int v3], σ2)) 7 rfl rfl (trivial) ?_
      refine Rc.pick [0, 1, 2, 4] (lv2 := [(0, .ref 117), (1, .int v1), (2, .int v2), (4, .int v4)]) rfl ?_
      exact m_isLike_117_b34_ok hd hk5 _ _ _ _ _ _ _ _ h
    · rw [if_neg c3] at h
      refine Rc.ifp c3 ?_
      refine Rc.blk (c := []) (s2 := (34, [(0, .ref 117), (1, .int v1), (2, .int v2), (3, .int v3), (4, .int v4)], [.int 0, .int v3], σ2)) 8 rfl rfl (trivial) ?_
      refine Rc.pick [0, 1, 2, 4] (lv2 := [(0, .ref 117), (1, .int v1), (2, .int v2), (4, .int v4)]) rfl ?_
      exact m_isLike_117_b34_ok hd hk5 _ _ _ _ _ _ _ _ h
theorem m_isLike_117_L5_ok {d : Nat} (hd : 1 ≤ d) : ∀ (n : Nat) (v1 : Int32) (v2 : Int32) (v3 : Int32) (v4 : Int32) (σ : Sg) (r : Int32) (σ2 : Sg), m_isLike_117_L5 n v1 v2 v3 v4 σ = some (r, σ2) → Rc none (Ev MT CT d) sg136 (5, [(0, .ref 117), (1, .int v1), (2, .int v2), (3, .int v3), (4, .int v4)], [], σ) (fun v s => v = some (.int r) ∧ s = σ2)
  | 0, _, _, _, _, _, _, _, h => by cases h
  | n + 1, v1, v2, v3, v4, σ, r, σ2, h => m_isLike_117_H5_ok hd (m_isLike_117_L5_ok hd n) v1 v2 v3 v4 σ r σ2 h
theorem m_isLike_117_ok {d : Nat} (hd : 2 ≤ d) {v1 : Int32} {v2 : Int32} {σ : Sg} {r : Int32} {σ2 : Sg} (h : m_isLike_117 v1 v2 σ = some (r, σ2)) : Ev MT CT d 136 [.ref 117, .int v1, .int v2] σ (fun v s => v = some (.int r) ∧ s = σ2) := by
  obtain ⟨d, rfl⟩ : ∃ e, d = e + 1 := ⟨d - 1, by omega⟩
  refine ⟨Nat.le_of_ble_eq_true rfl, ?_⟩
  show Rc none (Ev MT CT d) sg136 (0, [(0, .ref 117), (1, .int v1), (2, .int v2)], [], σ) _
  unfold m_isLike_117 at h
  have hd : 1 ≤ d := by omega
  refine Rc.blk (c := []) (s2 := (5, [(4, .int 0), (3, .int 1), (0, .ref 117), (1, .int v1), (2, .int v2)], [], σ)) 0 rfl rfl (trivial) ?_
  refine Rc.pick [2, 3, 4, 1, 0] (lv2 := [(0, .ref 117), (1, .int v1), (2, .int v2), (3, .int 1), (4, .int 0)]) rfl ?_
  exact m_isLike_117_L5_ok hd fu _ _ _ _ _ _ _ h
theorem m_twinOf_117_b28_ok {d : Nat} (hd : 2 ≤ d) {k2 : Int32 → Int32 → Sg → Option (Int32 × Sg)} (hk2 : ∀ (v1 : Int32) (v2 : Int32) (σ : Sg) (r : Int32) (σ2 : Sg), k2 v1 v2 σ = some (r, σ2) → Rc none (Ev MT CT d) sg137 (2, [(0, .ref 117), (1, .int v1), (2, .int v2)], [], σ) (fun v s => v = some (.int r) ∧ s = σ2)) (v1 : Int32) (v2 : Int32) (σ : Sg) (r : Int32) (σ2 : Sg) (h : m_twinOf_117_b28 k2 v1 v2 σ = some (r, σ2)) : Rc none (Ev MT CT d) sg137 (28, [(0, .ref 117), (1, .int v1), (2, .int v2)], [], σ) (fun v s => v = some (.int r) ∧ s = σ2) := by
  unfold m_twinOf_117_b28 at h
  refine Rc.blk (c := []) (s2 := (2, [(2, .int (v2 + 1)), (0, .ref 117), (1, .int v1)], [], σ)) 8 rfl rfl (trivial) ?_
  refine Rc.pick [1, 2, 0] (lv2 := [(0, .ref 117), (1, .int v1), (2, .int (v2 + 1))]) rfl ?_
  exact hk2 _ _ _ _ _ h
theorem m_twinOf_117_H2_ok {d : Nat} (hd : 2 ≤ d) {k2 : Int32 → Int32 → Sg → Option (Int32 × Sg)} (hk2 : ∀ (v1 : Int32) (v2 : Int32) (σ : Sg) (r : Int32) (σ2 : Sg), k2 v1 v2 σ = some (r, σ2) → Rc none (Ev MT CT d) sg137 (2, [(0, .ref 117), (1, .int v1), (2, .int v2)], [], σ) (fun v s => v = some (.int r) ∧ s = σ2)) (v1 : Int32) (v2 : Int32) (σ : Sg) (r : Int32) (σ2 : Sg) (h : m_twinOf_117_H2 k2 v1 v2 σ = some (r, σ2)) : Rc none (Ev MT CT d) sg137 (2, [(0, .ref 117), (1, .int v1), (2, .int v2)], [], σ) (fun v s => v = some (.int r) ∧ s = σ2) := by
  unfold m_twinOf_117_H2 at h
  refine Rc.blk (c := [_, _]) (s2 := (if (σ.1 118 0) ≤ v2 then 34 else 12, [(0, .ref 117), (1, .int v1), (2, .int v2)], [], σ)) 1 rfl rfl (conj_c (rfl) (conj_c (⟨rfl, inB_in (by decide)⟩) (trivial))) ?_
  by_cases c4 : (σ.1 118 0) ≤ v2
  · rw [if_pos c4] at h
    refine Rc.ifp c4 ?_
    refine Rc.blk (c := []) (s2 := (36, [(0, .ref 117), (1, .int v1), (2, .int v2)], [.int (-9)], σ)) 9 rfl rfl (trivial) ?_
    obtain ⟨rfl, rfl⟩ := some_pair h
    exact Rc.ret 10 rfl rfl rfl trivial ⟨rfl, rfl⟩
  · rw [if_neg c4] at h
    refine Rc.ifn c4 ?_
    refine Rc.blk (c := []) (s2 := (if v2 = v1 then 28 else 17, [(0, .ref 117), (1, .int v1), (2, .int v2)], [], σ)) 2 rfl rfl (trivial) ?_
    by_cases c3 : v2 = v1
    · rw [if_pos c3] at h
      refine Rc.ifp c3 ?_
      exact m_twinOf_117_b28_ok hd hk2 _ _ _ _ _ h
    · rw [if_neg c3] at h
      refine Rc.ifn c3 ?_
      refine Rc.blk (c := []) (s2 := (20, [(0, .ref 117), (1, .int v1), (2, .int v2)], [.int v1, .int v2, .ref 117], σ)) 3 rfl rfl (trivial) ?_
      obtain ⟨r1, σ1, hc, h⟩ := bd_some h
      refine Rc.call (Ev.mono d) (v := some (.int r1)) (as := [.ref 117, .int v2, .int v1]) (r := []) 4 rfl rfl rfl rfl ⟨rfl, Nat.le_of_ble_eq_true rfl⟩ (m_isLike_117_ok (by omega) hc) ?_
      show Rc _ _ _ (23, [(0, .ref 117), (1, .int v1), (2, .int v2)], [.int r1], σ1) _
      refine Rc.blk (c := []) (s2 := (if r1 = 0 then 28 else 26, [(0, .ref 117), (1, .int v1), (2, .int v2)], [], σ1)) 5 rfl rfl (trivial) ?_
      by_cases c2 : r1 = 0
      · rw [if_pos c2] at h
        refine Rc.ifp c2 ?_
        exact m_twinOf_117_b28_ok hd hk2 _ _ _ _ _ h
      · rw [if_neg c2] at h
        refine Rc.ifn c2 ?_
        refine Rc.blk (c := []) (s2 := (27, [(0, .ref 117), (1, .int v1), (2, .int v2)], [.int v2], σ1)) 6 rfl rfl (trivial) ?_
        obtain ⟨rfl, rfl⟩ := some_pair h
        exact Rc.ret 7 rfl rfl rfl trivial ⟨rfl, rfl⟩
theorem m_twinOf_117_L2_ok {d : Nat} (hd : 2 ≤ d) : ∀ (n : Nat) (v1 : Int32) (v2 : Int32) (σ : Sg) (r : Int32) (σ2 : Sg), m_twinOf_117_L2 n v1 v2 σ = some (r, σ2) → Rc none (Ev MT CT d) sg137 (2, [(0, .ref 117), (1, .int v1), (2, .int v2)], [], σ) (fun v s => v = some (.int r) ∧ s = σ2)
  | 0, _, _, _, _, _, h => by cases h
  | n + 1, v1, v2, σ, r, σ2, h => m_twinOf_117_H2_ok hd (m_twinOf_117_L2_ok hd n) v1 v2 σ r σ2 h
theorem m_twinOf_117_ok {d : Nat} (hd : 3 ≤ d) {v1 : Int32} {σ : Sg} {r : Int32} {σ2 : Sg} (h : m_twinOf_117 v1 σ = some (r, σ2)) : Ev MT CT d 137 [.ref 117, .int v1] σ (fun v s => v = some (.int r) ∧ s = σ2) := by
  obtain ⟨d, rfl⟩ : ∃ e, d = e + 1 := ⟨d - 1, by omega⟩
  refine ⟨Nat.le_of_ble_eq_true rfl, ?_⟩
  show Rc none (Ev MT CT d) sg137 (0, [(0, .ref 117), (1, .int v1)], [], σ) _
  unfold m_twinOf_117 at h
  have hd : 2 ≤ d := by omega
  refine Rc.blk (c := []) (s2 := (2, [(2, .int 0), (0, .ref 117), (1, .int v1)], [], σ)) 0 rfl rfl (trivial) ?_
  refine Rc.pick [1, 2, 0] (lv2 := [(0, .ref 117), (1, .int v1), (2, .int 0)]) rfl ?_
  exact m_twinOf_117_L2_ok hd fu _ _ _ _ _ h
theorem m_twin_117_b21_ok {d : Nat} (hd : 3 ≤ d) (s0 : Int32) (σ : Sg) (r : Int32) (σ2 : Sg) (h : m_twin_117_b21 s0 σ = some (r, σ2)) : Rc none (Ev MT CT d) sg139 (21, [], [.int s0], σ) (fun v s => v = some (.int r) ∧ s = σ2) := by
  unfold m_twin_117_b21 at h
  obtain ⟨rfl, rfl⟩ := some_pair h
  exact Rc.ret 8 rfl rfl rfl trivial ⟨rfl, rfl⟩
theorem m_twin_117_ok {d : Nat} (hd : 4 ≤ d) {v1 : Int32} {σ : Sg} {r : Int32} {σ2 : Sg} (h : m_twin_117 v1 σ = some (r, σ2)) : Ev MT CT d 139 [.ref 117, .int v1] σ (fun v s => v = some (.int r) ∧ s = σ2) := by
  obtain ⟨d, rfl⟩ : ∃ e, d = e + 1 := ⟨d - 1, by omega⟩
  refine ⟨Nat.le_of_ble_eq_true rfl, ?_⟩
  show Rc none (Ev MT CT d) sg139 (0, [(0, .ref 117), (1, .int v1)], [], σ) _
  unfold m_twin_117 at h
  have hd : 3 ≤ d := by omega
  refine Rc.blk (c := []) (s2 := (2, [(0, .ref 117), (1, .int v1)], [.int v1, .ref 117], σ)) 0 rfl rfl (trivial) ?_
  obtain ⟨r1, σ1, hc, h⟩ := bd_some h
  refine Rc.call (Ev.mono d) (v := some (.int r1)) (as := [.ref 117, .int v1]) (r := []) 1 rfl rfl rfl rfl ⟨rfl, Nat.le_of_ble_eq_true rfl⟩ (m_isOne_117_ok (by omega) hc) ?_
  show Rc _ _ _ (5, [(0, .ref 117), (1, .int v1)], [.int r1], σ1) _
  refine Rc.blk (c := []) (s2 := (if r1 = 0 then 16 else 8, [(0, .ref 117), (1, .int v1)], [], σ1)) 2 rfl rfl (trivial) ?_
  by_cases c4 : r1 = 0
  · rw [if_pos c4] at h
    refine Rc.ifp c4 ?_
    refine Rc.blk (c := []) (s2 := (18, [(0, .ref 117), (1, .int v1)], [.int 1, .ref 117], σ1)) 6 rfl rfl (trivial) ?_
    obtain ⟨r2, σ2, hc, h⟩ := bd_some h
    refine Rc.call (Ev.mono d) (v := some (.int r2)) (as := [.ref 117, .int 1]) (r := []) 7 rfl rfl rfl rfl ⟨rfl, Nat.le_of_ble_eq_true rfl⟩ (m_refuse_117_ok (by omega) hc) ?_
    show Rc _ _ _ (21, [(0, .ref 117), (1, .int v1)], [.int r2], σ2) _
    refine Rc.pick [] (lv2 := []) rfl ?_
    exact m_twin_117_b21_ok hd _ _ _ _ h
  · rw [if_neg c4] at h
    refine Rc.ifn c4 ?_
    refine Rc.blk (c := []) (s2 := (10, [(0, .ref 117), (1, .int v1)], [.int v1, .ref 117], σ1)) 3 rfl rfl (trivial) ?_
    obtain ⟨r3, σ3, hc, h⟩ := bd_some h
    refine Rc.call (Ev.mono d) (v := some (.int r3)) (as := [.ref 117, .int v1]) (r := []) 4 rfl rfl rfl rfl ⟨rfl, Nat.le_of_ble_eq_true rfl⟩ (m_twinOf_117_ok (by omega) hc) ?_
    show Rc _ _ _ (13, [(0, .ref 117), (1, .int v1)], [.int r3], σ3) _
    refine Rc.blk (c := []) (s2 := (21, [(0, .ref 117), (1, .int v1)], [.int r3], σ3)) 5 rfl rfl (trivial) ?_
    refine Rc.pick [] (lv2 := []) rfl ?_
    exact m_twin_117_b21_ok hd _ _ _ _ h
theorem m_isUnder_s_b34_ok {d : Nat} (hd : 0 ≤ d) (s0 : Int32) (σ : Sg) (r : Int32) (σ2 : Sg) (h : m_isUnder_s_b34 s0 σ = some (r, σ2)) : Rc none (Ev MT CT d) sg140 (34, [], [.int s0], σ) (fun v s => v = some (.int r) ∧ s = σ2) := by
  unfold m_isUnder_s_b34 at h
  obtain ⟨g, h⟩ := gd_some h
  obtain ⟨rfl, rfl⟩ := some_pair h
  exact Rc.ret 8 rfl rfl rfl (nbB_ok g) ⟨rfl, rfl⟩
theorem m_isUnder_s_b29_ok {d : Nat} (hd : 0 ≤ d) (σ : Sg) (r : Int32) (σ2 : Sg) (h : m_isUnder_s_b29 σ = some (r, σ2)) : Rc none (Ev MT CT d) sg140 (29, [], [], σ) (fun v s => v = some (.int r) ∧ s = σ2) := by
  unfold m_isUnder_s_b29 at h
  refine Rc.blk (c := []) (s2 := (34, [], [.int 1], σ)) 6 rfl rfl (trivial) ?_
  exact m_isUnder_s_b34_ok hd _ _ _ _ h
theorem m_isUnder_s_b33_ok {d : Nat} (hd : 0 ≤ d) (σ : Sg) (r : Int32) (σ2 : Sg) (h : m_isUnder_s_b33 σ = some (r, σ2)) : Rc none (Ev MT CT d) sg140 (33, [], [], σ) (fun v s => v = some (.int r) ∧ s = σ2) := by
  unfold m_isUnder_s_b33 at h
  refine Rc.blk (c := []) (s2 := (34, [], [.int 0], σ)) 7 rfl rfl (trivial) ?_
  exact m_isUnder_s_b34_ok hd _ _ _ _ h
theorem m_isUnder_s_b19_ok {d : Nat} (hd : 0 ≤ d) (v0 : Int32) (v1 : Int32) (σ : Sg) (r : Int32) (σ2 : Sg) (h : m_isUnder_s_b19 v0 v1 σ = some (r, σ2)) : Rc none (Ev MT CT d) sg140 (19, [(0, .int v0), (1, .int v1)], [], σ) (fun v s => v = some (.int r) ∧ s = σ2) := by
  unfold m_isUnder_s_b19 at h
  refine Rc.blk (c := []) (s2 := (if ¬ v0 = 5 then 33 else 24, [(0, .int v0), (1, .int v1)], [], σ)) 4 rfl rfl (trivial) ?_
  by_cases c2 : v0 = 5
  · rw [if_pos c2] at h
    refine Rc.ifn (fun q => q c2) ?_
    refine Rc.blk (c := []) (s2 := (if ¬ v1 = 2 then 33 else 29, [(0, .int v0), (1, .int v1)], [], σ)) 5 rfl rfl (trivial) ?_
    by_cases c1 : v1 = 2
    · rw [if_pos c1] at h
      refine Rc.ifn (fun q => q c1) ?_
      refine Rc.pick [] (lv2 := []) rfl ?_
      exact m_isUnder_s_b29_ok hd _ _ _ h
    · rw [if_neg c1] at h
      refine Rc.ifp c1 ?_
      refine Rc.pick [] (lv2 := []) rfl ?_
      exact m_isUnder_s_b33_ok hd _ _ _ h
  · rw [if_neg c2] at h
    refine Rc.ifp c2 ?_
    refine Rc.pick [] (lv2 := []) rfl ?_
    exact m_isUnder_s_b33_ok hd _ _ _ h
theorem m_isUnder_s_ok {d : Nat} (hd : 1 ≤ d) {v0 : Int32} {v1 : Int32} {σ : Sg} {r : Int32} {σ2 : Sg} (h : m_isUnder_s v0 v1 σ = some (r, σ2)) : Ev MT CT d 140 [.int v0, .int v1] σ (fun v s => v = some (.int r) ∧ s = σ2) := by
  obtain ⟨d, rfl⟩ : ∃ e, d = e + 1 := ⟨d - 1, by omega⟩
  refine ⟨Nat.le_of_ble_eq_true rfl, ?_⟩
  show Rc none (Ev MT CT d) sg140 (0, [(0, .int v0), (1, .int v1)], [], σ) _
  unfold m_isUnder_s at h
  have hd : 0 ≤ d := by omega
  refine Rc.blk (c := []) (s2 := (if v1 = 0 then 29 else 4, [(0, .int v0), (1, .int v1)], [], σ)) 0 rfl rfl (trivial) ?_
  by_cases c4 : v1 = 0
  · rw [if_pos c4] at h
    refine Rc.ifp c4 ?_
    refine Rc.pick [] (lv2 := []) rfl ?_
    exact m_isUnder_s_b29_ok hd _ _ _ h
  · rw [if_neg c4] at h
    refine Rc.ifn c4 ?_
    refine Rc.blk (c := []) (s2 := (if v0 = v1 then 29 else 9, [(0, .int v0), (1, .int v1)], [], σ)) 1 rfl rfl (trivial) ?_
    by_cases c3 : v0 = v1
    · rw [if_pos c3] at h
      refine Rc.ifp c3 ?_
      refine Rc.pick [] (lv2 := []) rfl ?_
      exact m_isUnder_s_b29_ok hd _ _ _ h
    · rw [if_neg c3] at h
      refine Rc.ifn c3 ?_
      refine Rc.blk (c := []) (s2 := (if ¬ v0 = 3 then 19 else 14, [(0, .int v0), (1, .int v1)], [], σ)) 2 rfl rfl (trivial) ?_
      by_cases c2 : v0 = 3
      · rw [if_pos c2] at h
        refine Rc.ifn (fun q => q c2) ?_
        refine Rc.blk (c := []) (s2 := (if v1 = 1 then 29 else 19, [(0, .int v0), (1, .int v1)], [], σ)) 3 rfl rfl (trivial) ?_
        by_cases c1 : v1 = 1
        · rw [if_pos c1] at h
          refine Rc.ifp c1 ?_
          refine Rc.pick [] (lv2 := []) rfl ?_
          exact m_isUnder_s_b29_ok hd _ _ _ h
        · rw [if_neg c1] at h
          refine Rc.ifn c1 ?_
          exact m_isUnder_s_b19_ok hd _ _ _ _ _ h
      · rw [if_neg c2] at h
        refine Rc.ifp c2 ?_
        exact m_isUnder_s_b19_ok hd _ _ _ _ _ h
theorem m_taken_117_b64_ok {d : Nat} (hd : 2 ≤ d) (s0 : Int32) (σ : Sg) (r : Int32) (σ2 : Sg) (h : m_taken_117_b64 s0 σ = some (r, σ2)) : Rc none (Ev MT CT d) sg141 (64, [], [.int s0], σ) (fun v s => v = some (.int r) ∧ s = σ2) := by
  unfold m_taken_117_b64 at h
  obtain ⟨rfl, rfl⟩ := some_pair h
  exact Rc.ret 18 rfl rfl rfl trivial ⟨rfl, rfl⟩
theorem m_taken_117_ok {d : Nat} (hd : 3 ≤ d) {v1 : Int32} {v2 : Int32} {σ : Sg} {r : Int32} {σ2 : Sg} (h : m_taken_117 v1 v2 σ = some (r, σ2)) : Ev MT CT d 141 [.ref 117, .int v1, .int v2] σ (fun v s => v = some (.int r) ∧ s = σ2) := by
  obtain ⟨d, rfl⟩ : ∃ e, d = e + 1 := ⟨d - 1, by omega⟩
  refine ⟨Nat.le_of_ble_eq_true rfl, ?_⟩
  show Rc none (Ev MT CT d) sg141 (0, [(0, .ref 117), (1, .int v1), (2, .int v2)], [], σ) _
  unfold m_taken_117 at h
  have hd : 2 ≤ d := by omega
  refine Rc.blk (c := []) (s2 := (2, [(0, .ref 117), (1, .int v1), (2, .int v2)], [.int v1, .ref 117], σ)) 0 rfl rfl (trivial) ?_
  obtain ⟨r1, σ1, hc, h⟩ := bd_some h
  refine Rc.call (Ev.mono d) (v := some (.int r1)) (as := [.ref 117, .int v1]) (r := []) 1 rfl rfl rfl rfl ⟨rfl, Nat.le_of_ble_eq_true rfl⟩ (m_isOne_117_ok (by omega) hc) ?_
  show Rc _ _ _ (5, [(0, .ref 117), (1, .int v1), (2, .int v2)], [.int r1], σ1) _
  refine Rc.blk (c := []) (s2 := (if ¬ r1 = 0 then 14 else 8, [(0, .ref 117), (1, .int v1), (2, .int v2)], [], σ1)) 2 rfl rfl (trivial) ?_
  by_cases c11 : r1 = 0
  · rw [if_pos c11] at h
    refine Rc.ifn (fun q => q c11) ?_
    refine Rc.blk (c := []) (s2 := (10, [(0, .ref 117), (1, .int v1), (2, .int v2)], [.int 1, .ref 117], σ1)) 3 rfl rfl (trivial) ?_
    obtain ⟨r10, σ10, hc, h⟩ := bd_some h
    refine Rc.call (Ev.mono d) (v := some (.int r10)) (as := [.ref 117, .int 1]) (r := []) 4 rfl rfl rfl rfl ⟨rfl, Nat.le_of_ble_eq_true rfl⟩ (m_refuse_117_ok (by omega) hc) ?_
    show Rc _ _ _ (13, [(0, .ref 117), (1, .int v1), (2, .int v2)], [.int r10], σ10) _
    obtain ⟨rfl, rfl⟩ := some_pair h
    exact Rc.ret 5 rfl rfl rfl trivial ⟨rfl, rfl⟩
  · rw [if_neg c11] at h
    refine Rc.ifp c11 ?_
    refine Rc.blk (c := []) (s2 := (20, [(0, .ref 117), (1, .int v1), (2, .int v2)], [.long 5, .long 0, .long v2.toInt64], σ1)) 6 rfl rfl (trivial) ?_
    obtain ⟨r2, σ2, hc, h⟩ := bd_some h
    refine Rc.call (Ev.mono d) (v := some (.int r2)) (as := [.long v2.toInt64, .long 0, .long 5]) (r := []) 7 rfl rfl rfl rfl (Nat.le_of_ble_eq_true rfl) (m_isIn_s_ok (by omega) hc) ?_
    show Rc _ _ _ (23, [(0, .ref 117), (1, .int v1), (2, .int v2)], [.int r2], σ2) _
    refine Rc.blk (c := []) (s2 := (if ¬ r2 = 0 then 32 else 26, [(0, .ref 117), (1, .int v1), (2, .int v2)], [], σ2)) 8 rfl rfl (trivial) ?_
    by_cases c9 : r2 = 0
    · rw [if_pos c9] at h
      refine Rc.ifn (fun q => q c9) ?_
      refine Rc.blk (c := []) (s2 := (28, [(0, .ref 117), (1, .int v1), (2, .int v2)], [.int 2, .ref 117], σ2)) 9 rfl rfl (trivial) ?_
      obtain ⟨r8, σ8, hc, h⟩ := bd_some h
      refine Rc.call (Ev.mono d) (v := some (.int r8)) (as := [.ref 117, .int 2]) (r := []) 10 rfl rfl rfl rfl ⟨rfl, Nat.le_of_ble_eq_true rfl⟩ (m_refuse_117_ok (by omega) hc) ?_
      show Rc _ _ _ (31, [(0, .ref 117), (1, .int v1), (2, .int v2)], [.int r8], σ8) _
      obtain ⟨rfl, rfl⟩ := some_pair h
      exact Rc.ret 11 rfl rfl rfl trivial ⟨rfl, rfl⟩
    · rw [if_neg c9] at h
      refine Rc.ifp c9 ?_
      obtain ⟨g3, h⟩ := gd_some h
      refine Rc.blk (c := [_, _]) (s2 := (41, [(0, .ref 117), (1, .int v1), (2, .int v2)], [.int v2, .int (σ2.1 118 (1 + v1).toNatClampNeg)], σ2)) 12 rfl rfl (conj_c (rfl) (conj_c (⟨rfl, inB_in g3⟩) (trivial))) ?_
      obtain ⟨r4, σ4, hc, h⟩ := bd_some h
      refine Rc.call (Ev.mono d) (v := some (.int r4)) (as := [.int (σ2.1 118 (1 + v1).toNatClampNeg), .int v2]) (r := []) 13 rfl rfl rfl rfl (Nat.le_of_ble_eq_true rfl) (m_isUnder_s_ok (by omega) hc) ?_
      show Rc _ _ _ (44, [(0, .ref 117), (1, .int v1), (2, .int v2)], [.int r4], σ4) _
      refine Rc.blk (c := []) (s2 := (if r4 = 0 then 58 else 47, [(0, .ref 117), (1, .int v1), (2, .int v2)], [], σ4)) 14 rfl rfl (trivial) ?_
      by_cases c7 : r4 = 0
      · rw [if_pos c7] at h
        refine Rc.ifp c7 ?_
        refine Rc.blk (c := []) (s2 := (61, [(0, .ref 117), (1, .int v1), (2, .int v2)], [.int 16, .ref 117], σ4)) 16 rfl rfl (trivial) ?_
        obtain ⟨r5, σ5, hc, h⟩ := bd_some h
        refine Rc.call (Ev.mono d) (v := some (.int r5)) (as := [.ref 117, .int 16]) (r := []) 17 rfl rfl rfl rfl ⟨rfl, Nat.le_of_ble_eq_true rfl⟩ (m_refuse_117_ok (by omega) hc) ?_
        show Rc _ _ _ (64, [(0, .ref 117), (1, .int v1), (2, .int v2)], [.int r5], σ5) _
        refine Rc.pick [] (lv2 := []) rfl ?_
        exact m_taken_117_b64_ok hd _ _ _ _ h
      · rw [if_neg c7] at h
        refine Rc.ifn c7 ?_
        obtain ⟨g6, h⟩ := gd_some h
        refine Rc.blk (c := [_, _]) (s2 := (64, [(0, .ref 117), (1, .int v1), (2, .int v2)], [.int (σ4.1 118 (1 + v1).toNatClampNeg)], σ4)) 15 rfl rfl (conj_c (rfl) (conj_c (⟨rfl, inB_in g6⟩) (trivial))) ?_
        refine Rc.pick [] (lv2 := []) rfl ?_
        exact m_taken_117_b64_ok hd _ _ _ _ h
theorem m_bits_s_H4_ok {d : Nat} (hd : 0 ≤ d) {k4 : Int32 → Int32 → Sg → Option (Int32 × Sg)} (hk4 : ∀ (v1 : Int32) (v2 : Int32) (σ : Sg) (r : Int32) (σ2 : Sg), k4 v1 v2 σ = some (r, σ2) → Rc none (Ev MT CT d) sg119 (4, [(1, .int v1), (2, .int v2)], [], σ) (fun v s => v = some (.int r) ∧ s = σ2)) (v1 : Int32) (v2 : Int32) (σ : Sg) (r : Int32) (σ2 : Sg) (h : m_bits_s_H4 k4 v1 v2 σ = some (r, σ2)) : Rc none (Ev MT CT d) sg119 (4, [(1, .int v1), (2, .int v2)], [], σ) (fun v s => v = some (.int r) ∧ s = σ2) := by
  unfold m_bits_s_H4 at h
  refine Rc.blk (c := []) (s2 := (if v2 = 0 then 20 else 8, [(1, .int v1), (2, .int v2)], [], σ)) 1 rfl rfl (trivial) ?_
  by_cases c1 : v2 = 0
  · rw [if_pos c1] at h
    refine Rc.ifp c1 ?_
    refine Rc.blk (c := []) (s2 := (21, [(1, .int v1), (2, .int v2)], [.int v1], σ)) 3 rfl rfl (trivial) ?_
    obtain ⟨rfl, rfl⟩ := some_pair h
    exact Rc.ret 4 rfl rfl rfl trivial ⟨rfl, rfl⟩
  · rw [if_neg c1] at h
    refine Rc.ifn c1 ?_
    refine Rc.blk (c := []) (s2 := (4, [(2, .int (v2 &&& (v2 - 1))), (1, .int (v1 + 1))], [], σ)) 2 rfl rfl (trivial) ?_
    refine Rc.pick [1, 0] (lv2 := [(1, .int (v1 + 1)), (2, .int (v2 &&& (v2 - 1)))]) rfl ?_
    exact hk4 _ _ _ _ _ h
theorem m_bits_s_L4_ok {d : Nat} (hd : 0 ≤ d) : ∀ (n : Nat) (v1 : Int32) (v2 : Int32) (σ : Sg) (r : Int32) (σ2 : Sg), m_bits_s_L4 n v1 v2 σ = some (r, σ2) → Rc none (Ev MT CT d) sg119 (4, [(1, .int v1), (2, .int v2)], [], σ) (fun v s => v = some (.int r) ∧ s = σ2)
  | 0, _, _, _, _, _, h => by cases h
  | n + 1, v1, v2, σ, r, σ2, h => m_bits_s_H4_ok hd (m_bits_s_L4_ok hd n) v1 v2 σ r σ2 h
theorem m_bits_s_ok {d : Nat} (hd : 1 ≤ d) {v0 : Int32} {σ : Sg} {r : Int32} {σ2 : Sg} (h : m_bits_s v0 σ = some (r, σ2)) : Ev MT CT d 119 [.int v0] σ (fun v s => v = some (.int r) ∧ s = σ2) := by
  obtain ⟨d, rfl⟩ : ∃ e, d = e + 1 := ⟨d - 1, by omega⟩
  refine ⟨Nat.le_of_ble_eq_true rfl, ?_⟩
  show Rc none (Ev MT CT d) sg119 (0, [(0, .int v0)], [], σ) _
  unfold m_bits_s at h
  have hd : 0 ≤ d := by omega
  refine Rc.blk (c := []) (s2 := (4, [(2, .int v0), (1, .int 0), (0, .int v0)], [], σ)) 0 rfl rfl (trivial) ?_
  refine Rc.pick [1, 0] (lv2 := [(1, .int 0), (2, .int v0)]) rfl ?_
  exact m_bits_s_L4_ok hd fu _ _ _ _ _ h
theorem m_different_117_b37_ok {d : Nat} (hd : 3 ≤ d) {k4 : Int32 → Int32 → Sg → Option (Int32 × Sg)} (hk4 : ∀ (v1 : Int32) (v2 : Int32) (σ : Sg) (r : Int32) (σ2 : Sg), k4 v1 v2 σ = some (r, σ2) → Rc none (Ev MT CT d) sg151 (4, [(0, .ref 117), (1, .int v1), (2, .int v2)], [], σ) (fun v s => v = some (.int r) ∧ s = σ2)) (v2 : Int32) (s0 : Int32) (s1 : Int32) (σ : Sg) (r : Int32) (σ2 : Sg) (h : m_different_117_b37 k4 v2 s0 s1 σ = some (r, σ2)) : Rc none (Ev MT CT d) sg151 (37, [(0, .ref 117), (2, .int v2)], [.int s1, .int s0], σ) (fun v s => v = some (.int r) ∧ s = σ2) := by
  unfold m_different_117_b37 at h
  refine Rc.blk (c := []) (s2 := (4, [(2, .int (v2 + 1)), (1, .int (s0 + s1)), (0, .ref 117)], [], σ)) 8 rfl rfl (trivial) ?_
  refine Rc.pick [2, 1, 0] (lv2 := [(0, .ref 117), (1, .int (s0 + s1)), (2, .int (v2 + 1))]) rfl ?_
  exact hk4 _ _ _ _ _ h
theorem m_different_117_b32_ok {d : Nat} (hd : 3 ≤ d) {k4 : Int32 → Int32 → Sg → Option (Int32 × Sg)} (hk4 : ∀ (v1 : Int32) (v2 : Int32) (σ : Sg) (r : Int32) (σ2 : Sg), k4 v1 v2 σ = some (r, σ2) → Rc none (Ev MT CT d) sg151 (4, [(0, .ref 117), (1, .int v1), (2, .int v2)], [], σ) (fun v s => v = some (.int r) ∧ s = σ2)) (v2 : Int32) (s0 : Int32) (σ : Sg) (r : Int32) (σ2 : Sg) (h : m_different_117_b32 k4 v2 s0 σ = some (r, σ2)) : Rc none (Ev MT CT d) sg151 (32, [(0, .ref 117), (2, .int v2)], [.int s0], σ) (fun v s => v = some (.int r) ∧ s = σ2) := by
  unfold m_different_117_b32 at h
  refine Rc.blk (c := []) (s2 := (37, [(0, .ref 117), (2, .int v2)], [.int 1, .int s0], σ)) 6 rfl rfl (trivial) ?_
  exact m_different_117_b37_ok hd hk4 _ _ _ _ _ _ h
theorem m_different_117_H4_ok {d : Nat} (hd : 3 ≤ d) {k4 : Int32 → Int32 → Sg → Option (Int32 × Sg)} (hk4 : ∀ (v1 : Int32) (v2 : Int32) (σ : Sg) (r : Int32) (σ2 : Sg), k4 v1 v2 σ = some (r, σ2) → Rc none (Ev MT CT d) sg151 (4, [(0, .ref 117), (1, .int v1), (2, .int v2)], [], σ) (fun v s => v = some (.int r) ∧ s = σ2)) (v1 : Int32) (v2 : Int32) (σ : Sg) (r : Int32) (σ2 : Sg) (h : m_different_117_H4 k4 v1 v2 σ = some (r, σ2)) : Rc none (Ev MT CT d) sg151 (4, [(0, .ref 117), (1, .int v1), (2, .int v2)], [], σ) (fun v s => v = some (.int r) ∧ s = σ2) := by
  unfold m_different_117_H4 at h
  refine Rc.blk (c := [_, _]) (s2 := (if (σ.1 118 0) ≤ v2 then 45 else 14, [(0, .ref 117), (1, .int v1), (2, .int v2)], [], σ)) 1 rfl rfl (conj_c (rfl) (conj_c (⟨rfl, inB_in (by decide)⟩) (trivial))) ?_
  by_cases c4 : (σ.1 118 0) ≤ v2
  · rw [if_pos c4] at h
    refine Rc.ifp c4 ?_
    refine Rc.blk (c := []) (s2 := (46, [(0, .ref 117), (1, .int v1), (2, .int v2)], [.int v1], σ)) 9 rfl rfl (trivial) ?_
    obtain ⟨rfl, rfl⟩ := some_pair h
    exact Rc.ret 10 rfl rfl rfl trivial ⟨rfl, rfl⟩
  · rw [if_neg c4] at h
    refine Rc.ifn c4 ?_
    refine Rc.blk (c := []) (s2 := (16, [(0, .ref 117), (1, .int v1), (2, .int v2)], [.int v2, .ref 117], σ)) 2 rfl rfl (trivial) ?_
    obtain ⟨r1, σ1, hc, h⟩ := bd_some h
    refine Rc.call (Ev.mono d) (v := some (.int r1)) (as := [.ref 117, .int v2]) (r := []) 3 rfl rfl rfl rfl ⟨rfl, Nat.le_of_ble_eq_true rfl⟩ (m_twinOf_117_ok (by omega) hc) ?_
    show Rc _ _ _ (19, [(0, .ref 117), (1, .int v1), (2, .int v2)], [.int r1], σ1) _
    refine Rc.blk (c := []) (s2 := (if r1 = (-9) then 32 else 27, [(3, .int r1), (0, .ref 117), (1, .int v1), (2, .int v2)], [.int v1], σ1)) 4 rfl rfl (trivial) ?_
    by_cases c3 : r1 = (-9)
    · rw [if_pos c3] at h
      refine Rc.ifp c3 ?_
      refine Rc.pick [1, 3] (lv2 := [(0, .ref 117), (2, .int v2)]) rfl ?_
      exact m_different_117_b32_ok hd hk4 _ _ _ _ _ h
    · rw [if_neg c3] at h
      refine Rc.ifn c3 ?_
      refine Rc.blk (c := []) (s2 := (if r1 ≤ v2 then 36 else 32, [(3, .int r1), (0, .ref 117), (1, .int v1), (2, .int v2)], [.int v1], σ1)) 5 rfl rfl (trivial) ?_
      by_cases c2 : r1 ≤ v2
      · rw [if_pos c2] at h
        refine Rc.ifp c2 ?_
        refine Rc.blk (c := []) (s2 := (37, [(3, .int r1), (0, .ref 117), (1, .int v1), (2, .int v2)], [.int 0, .int v1], σ1)) 7 rfl rfl (trivial) ?_
        refine Rc.pick [1, 3] (lv2 := [(0, .ref 117), (2, .int v2)]) rfl ?_
        exact m_different_117_b37_ok hd hk4 _ _ _ _ _ _ h
      · rw [if_neg c2] at h
        refine Rc.ifn c2 ?_
        refine Rc.pick [1, 3] (lv2 := [(0, .ref 117), (2, .int v2)]) rfl ?_
        exact m_different_117_b32_ok hd hk4 _ _ _ _ _ h
theorem m_different_117_L4_ok {d : Nat} (hd : 3 ≤ d) : ∀ (n : Nat) (v1 : Int32) (v2 : Int32) (σ : Sg) (r : Int32) (σ2 : Sg), m_different_117_L4 n v1 v2 σ = some (r, σ2) → Rc none (Ev MT CT d) sg151 (4, [(0, .ref 117), (1, .int v1), (2, .int v2)], [], σ) (fun v s => v = some (.int r) ∧ s = σ2)
  | 0, _, _, _, _, _, h => by cases h
  | n + 1, v1, v2, σ, r, σ2, h => m_different_117_H4_ok hd (m_different_117_L4_ok hd n) v1 v2 σ r σ2 h
theorem m_different_117_ok {d : Nat} (hd : 4 ≤ d) {σ : Sg} {r : Int32} {σ2 : Sg} (h : m_different_117 σ = some (r, σ2)) : Ev MT CT d 151 [.ref 117] σ (fun v s => v = some (.int r) ∧ s = σ2) := by
  obtain ⟨d, rfl⟩ : ∃ e, d = e + 1 := ⟨d - 1, by omega⟩
  refine ⟨Nat.le_of_ble_eq_true rfl, ?_⟩
  show Rc none (Ev MT CT d) sg151 (0, [(0, .ref 117)], [], σ) _
  unfold m_different_117 at h
  have hd : 3 ≤ d := by omega
  refine Rc.blk (c := []) (s2 := (4, [(2, .int 0), (1, .int 0), (0, .ref 117)], [], σ)) 0 rfl rfl (trivial) ?_
  refine Rc.pick [2, 1, 0] (lv2 := [(0, .ref 117), (1, .int 0), (2, .int 0)]) rfl ?_
  exact m_different_117_L4_ok hd fu _ _ _ _ _ h
theorem m_loose_117_ok {d : Nat} (hd : 5 ≤ d) {σ : Sg} {r : Int32} {σ2 : Sg} (h : m_loose_117 σ = some (r, σ2)) : Ev MT CT d 148 [.ref 117] σ (fun v s => v = some (.int r) ∧ s = σ2) := by
  obtain ⟨d, rfl⟩ : ∃ e, d = e + 1 := ⟨d - 1, by omega⟩
  refine ⟨Nat.le_of_ble_eq_true rfl, ?_⟩
  show Rc none (Ev MT CT d) sg148 (0, [(0, .ref 117)], [], σ) _
  unfold m_loose_117 at h
  have hd : 4 ≤ d := by omega
  refine Rc.blk (c := [_, _]) (s2 := (11, [(0, .ref 117)], [.ref 117, .int (((1 : Int32) <<< ((σ.1 118 0) &&& 31)) - 1)], σ)) 0 rfl rfl (conj_c (rfl) (conj_c (⟨rfl, inB_in (by decide)⟩) (trivial))) ?_
  obtain ⟨r1, σ1, hc, h⟩ := bd_some h
  refine Rc.call (Ev.mono d) (v := some (.int r1)) (as := [.ref 117]) (r := [.int (((1 : Int32) <<< ((σ.1 118 0) &&& 31)) - 1)]) 1 rfl rfl rfl rfl ⟨rfl, Nat.le_of_ble_eq_true rfl⟩ (m_firm_117_ok (by omega) hc) ?_
  show Rc _ _ _ (14, [(0, .ref 117)], [.int r1, .int (((1 : Int32) <<< ((σ.1 118 0) &&& 31)) - 1)], σ1) _
  refine Rc.blk (c := []) (s2 := (17, [(0, .ref 117)], [.int ((((1 : Int32) <<< ((σ.1 118 0) &&& 31)) - 1) &&& (r1 ^^^ (-1)))], σ1)) 2 rfl rfl (trivial) ?_
  obtain ⟨rfl, rfl⟩ := some_pair h
  exact Rc.ret 3 rfl rfl rfl trivial ⟨rfl, rfl⟩
theorem m_rank_117_ok {d : Nat} (hd : 6 ≤ d) {v1 : Int32} {σ : Sg} {r : Int32} {σ2 : Sg} (h : m_rank_117 v1 σ = some (r, σ2)) : Ev MT CT d 152 [.ref 117, .int v1] σ (fun v s => v = some (.int r) ∧ s = σ2) := by
  obtain ⟨d, rfl⟩ : ∃ e, d = e + 1 := ⟨d - 1, by omega⟩
  refine ⟨Nat.le_of_ble_eq_true rfl, ?_⟩
  show Rc none (Ev MT CT d) sg152 (0, [(0, .ref 117), (1, .int v1)], [], σ) _
  unfold m_rank_117 at h
  have hd : 5 ≤ d := by omega
  refine Rc.blk (c := []) (s2 := (swt v1 58 0 [32, 40, 48, 53], [(0, .ref 117), (1, .int v1)], [], σ)) 0 rfl rfl (trivial) ?_
  by_cases c1 : v1 = 0
  · rw [if_pos c1] at h
    refine Rc.sw1 (by rw [c1]; rfl) ?_
    show Rc _ _ _ (32, _, _, _) _
    refine Rc.blk (c := []) (s2 := (33, [(0, .ref 117), (1, .int v1)], [.ref 117], σ)) 1 rfl rfl (trivial) ?_
    obtain ⟨r2, σ2, hc, h⟩ := bd_some h
    refine Rc.call (Ev.mono d) (v := some (.int r2)) (as := [.ref 117]) (r := []) 2 rfl rfl rfl rfl ⟨rfl, Nat.le_of_ble_eq_true rfl⟩ (m_firm_117_ok (by omega) hc) ?_
    show Rc _ _ _ (36, [(0, .ref 117), (1, .int v1)], [.int r2], σ2) _
    obtain ⟨r3, σ3, hc, h⟩ := bd_some h
    refine Rc.call (Ev.mono d) (v := some (.int r3)) (as := [.int r2]) (r := []) 3 rfl rfl rfl rfl (Nat.le_of_ble_eq_true rfl) (m_bits_s_ok (by omega) hc) ?_
    show Rc _ _ _ (39, [(0, .ref 117), (1, .int v1)], [.int r3], σ3) _
    obtain ⟨rfl, rfl⟩ := some_pair h
    exact Rc.ret 4 rfl rfl rfl trivial ⟨rfl, rfl⟩
  · rw [if_neg c1] at h
    refine Rc.sw2 (fun q => c1 (q.trans rfl)) ?_
    by_cases c4 : v1 = 1
    · rw [if_pos c4] at h
      refine Rc.sw1 (by rw [c4]; rfl) ?_
      show Rc _ _ _ (40, _, _, _) _
      refine Rc.blk (c := []) (s2 := (41, [(0, .ref 117), (1, .int v1)], [.ref 117], σ)) 5 rfl rfl (trivial) ?_
      obtain ⟨r5, σ5, hc, h⟩ := bd_some h
      refine Rc.call (Ev.mono d) (v := some (.int r5)) (as := [.ref 117]) (r := []) 6 rfl rfl rfl rfl ⟨rfl, Nat.le_of_ble_eq_true rfl⟩ (m_loose_117_ok (by omega) hc) ?_
      show Rc _ _ _ (44, [(0, .ref 117), (1, .int v1)], [.int r5], σ5) _
      obtain ⟨r6, σ6, hc, h⟩ := bd_some h
      refine Rc.call (Ev.mono d) (v := some (.int r6)) (as := [.int r5]) (r := []) 7 rfl rfl rfl rfl (Nat.le_of_ble_eq_true rfl) (m_bits_s_ok (by omega) hc) ?_
      show Rc _ _ _ (47, [(0, .ref 117), (1, .int v1)], [.int r6], σ6) _
      obtain ⟨rfl, rfl⟩ := some_pair h
      exact Rc.ret 8 rfl rfl rfl trivial ⟨rfl, rfl⟩
    · rw [if_neg c4] at h
      refine Rc.sw2 (fun q => c4 (q.trans rfl)) ?_
      by_cases c7 : v1 = 2
      · rw [if_pos c7] at h
        refine Rc.sw1 (by rw [c7]; rfl) ?_
        show Rc _ _ _ (48, _, _, _) _
        refine Rc.blk (c := []) (s2 := (49, [(0, .ref 117), (1, .int v1)], [.ref 117], σ)) 9 rfl rfl (trivial) ?_
        obtain ⟨r8, σ8, hc, h⟩ := bd_some h
        refine Rc.call (Ev.mono d) (v := some (.int r8)) (as := [.ref 117]) (r := []) 10 rfl rfl rfl rfl ⟨rfl, Nat.le_of_ble_eq_true rfl⟩ (m_loose_117_ok (by omega) hc) ?_
        show Rc _ _ _ (52, [(0, .ref 117), (1, .int v1)], [.int r8], σ8) _
        obtain ⟨rfl, rfl⟩ := some_pair h
        exact Rc.ret 11 rfl rfl rfl trivial ⟨rfl, rfl⟩
      · rw [if_neg c7] at h
        refine Rc.sw2 (fun q => c7 (q.trans rfl)) ?_
        by_cases c9 : v1 = 3
        · rw [if_pos c9] at h
          refine Rc.sw1 (by rw [c9]; rfl) ?_
          show Rc _ _ _ (53, _, _, _) _
          refine Rc.blk (c := []) (s2 := (54, [(0, .ref 117), (1, .int v1)], [.ref 117], σ)) 12 rfl rfl (trivial) ?_
          obtain ⟨r10, σ10, hc, h⟩ := bd_some h
          refine Rc.call (Ev.mono d) (v := some (.int r10)) (as := [.ref 117]) (r := []) 13 rfl rfl rfl rfl ⟨rfl, Nat.le_of_ble_eq_true rfl⟩ (m_different_117_ok (by omega) hc) ?_
          show Rc _ _ _ (57, [(0, .ref 117), (1, .int v1)], [.int r10], σ10) _
          obtain ⟨rfl, rfl⟩ := some_pair h
          exact Rc.ret 14 rfl rfl rfl trivial ⟨rfl, rfl⟩
        · rw [if_neg c9] at h
          refine Rc.sw2 (fun q => c9 (q.trans rfl)) ?_
          refine Rc.sw0 ?_
          refine Rc.blk (c := []) (s2 := (60, [(0, .ref 117), (1, .int v1)], [.int 2, .ref 117], σ)) 15 rfl rfl (trivial) ?_
          obtain ⟨r11, σ11, hc, h⟩ := bd_some h
          refine Rc.call (Ev.mono d) (v := some (.int r11)) (as := [.ref 117, .int 2]) (r := []) 16 rfl rfl rfl rfl ⟨rfl, Nat.le_of_ble_eq_true rfl⟩ (m_refuse_117_ok (by omega) hc) ?_
          show Rc _ _ _ (63, [(0, .ref 117), (1, .int v1)], [.int r11], σ11) _
          obtain ⟨rfl, rfl⟩ := some_pair h
          exact Rc.ret 17 rfl rfl rfl trivial ⟨rfl, rfl⟩
theorem m_groups_117_ok {d : Nat} (hd : 5 ≤ d) {v1 : Int32} {σ : Sg} {r : Unit} {σ2 : Sg} (h : m_groups_117 v1 σ = some (r, σ2)) : Ev MT CT d 150 [.ref 117, .int v1] σ (fun v s => v = none ∧ s = σ2) := by
  obtain ⟨d, rfl⟩ : ∃ e, d = e + 1 := ⟨d - 1, by omega⟩
  refine ⟨Nat.le_of_ble_eq_true rfl, ?_⟩
  show Rc none (Ev MT CT d) sg150 (0, [(0, .ref 117), (1, .int v1)], [], σ) _
  unfold m_groups_117 at h
  have hd : 4 ≤ d := by omega
  refine Rc.blk (c := []) (s2 := (2, [(0, .ref 117), (1, .int v1)], [.ref 117, .ref 117], σ)) 0 rfl rfl (trivial) ?_
  obtain ⟨r1, σ1, hc, h⟩ := bd_some h
  refine Rc.call (Ev.mono d) (v := some (.int r1)) (as := [.ref 117]) (r := [.ref 117]) 1 rfl rfl rfl rfl ⟨rfl, Nat.le_of_ble_eq_true rfl⟩ (m_firm_117_ok (by omega) hc) ?_
  show Rc _ _ _ (5, [(0, .ref 117), (1, .int v1)], [.int r1, .ref 117], σ1) _
  refine Rc.blk (c := []) (s2 := (12, [(0, .ref 117), (1, .int v1)], [.int v1, .int (r1 &&& (((1 : Int32) <<< (v1 &&& 31)) - 1)), .ref 117], σ1)) 2 rfl rfl (trivial) ?_
  obtain ⟨r2, σ2, hc, h⟩ := bd_some h
  refine Rc.call (Ev.mono d) (v := some (.int r2)) (as := [.ref 117, .int (r1 &&& (((1 : Int32) <<< (v1 &&& 31)) - 1)), .int v1]) (r := []) 3 rfl rfl rfl rfl ⟨rfl, Nat.le_of_ble_eq_true rfl⟩ (m_isHad_117_ok (by omega) hc) ?_
  show Rc _ _ _ (15, [(0, .ref 117), (1, .int v1)], [.int r2], σ2) _
  refine Rc.blk (c := []) (s2 := (16, [(2, .int r2), (0, .ref 117), (1, .int v1)], [], σ2)) 4 rfl rfl (trivial) ?_
  obtain ⟨rfl, rfl⟩ := some_pair h
  exact Rc.ret 5 rfl rfl rfl trivial ⟨rfl, rfl⟩
theorem m_ownOf_117_b50_ok {d : Nat} (hd : 5 ≤ d) (σ : Sg) (r : Int32) (σ2 : Sg) (h : m_ownOf_117_b50 σ = some (r, σ2)) : Rc none (Ev MT CT d) sg149 (50, [], [], σ) (fun v s => v = some (.int r) ∧ s = σ2) := by
  unfold m_ownOf_117_b50 at h
  refine Rc.blk (c := []) (s2 := (51, [], [.int (-1)], σ)) 13 rfl rfl (trivial) ?_
  obtain ⟨rfl, rfl⟩ := some_pair h
  exact Rc.ret 14 rfl rfl rfl trivial ⟨rfl, rfl⟩
theorem m_ownOf_117_b44_ok {d : Nat} (hd : 5 ≤ d) {k10 : Int32 → Int32 → Int32 → Int32 → Sg → Option (Int32 × Sg)} (hk10 : ∀ (v1 : Int32) (v2 : Int32) (v3 : Int32) (v4 : Int32) (σ : Sg) (r : Int32) (σ2 : Sg), k10 v1 v2 v3 v4 σ = some (r, σ2) → Rc none (Ev MT CT d) sg149 (10, [(0, .ref 117), (1, .int v1), (2, .int v2), (3, .int v3), (4, .int v4)], [], σ) (fun v s => v = some (.int r) ∧ s = σ2)) (v1 : Int32) (v2 : Int32) (v3 : Int32) (v4 : Int32) (σ : Sg) (r : Int32) (σ2 : Sg) (h : m_ownOf_117_b44 k10 v1 v2 v3 v4 σ = some (r, σ2)) : Rc none (Ev MT CT d) sg149 (44, [(0, .ref 117), (1, .int v1), (2, .int v2), (3, .int v3), (4, .int v4)], [], σ) (fun v s => v = some (.int r) ∧ s = σ2) := by
  unfold m_ownOf_117_b44 at h
  refine Rc.blk (c := []) (s2 := (10, [(4, .int (v4 + 1)), (0, .ref 117), (1, .int v1), (2, .int v2), (3, .int v3)], [], σ)) 12 rfl rfl (trivial) ?_
  refine Rc.pick [1, 2, 3, 4, 0] (lv2 := [(0, .ref 117), (1, .int v1), (2, .int v2), (3, .int v3), (4, .int (v4 + 1))]) rfl ?_
  exact hk10 _ _ _ _ _ _ _ h
theorem m_ownOf_117_H10_ok {d : Nat} (hd : 5 ≤ d) {k10 : Int32 → Int32 → Int32 → Int32 → Sg → Option (Int32 × Sg)} (hk10 : ∀ (v1 : Int32) (v2 : Int32) (v3 : Int32) (v4 : Int32) (σ : Sg) (r : Int32) (σ2 : Sg), k10 v1 v2 v3 v4 σ = some (r, σ2) → Rc none (Ev MT CT d) sg149 (10, [(0, .ref 117), (1, .int v1), (2, .int v2), (3, .int v3), (4, .int v4)], [], σ) (fun v s => v = some (.int r) ∧ s = σ2)) (v1 : Int32) (v2 : Int32) (v3 : Int32) (v4 : Int32) (σ : Sg) (r : Int32) (σ2 : Sg) (h : m_ownOf_117_H10 k10 v1 v2 v3 v4 σ = some (r, σ2)) : Rc none (Ev MT CT d) sg149 (10, [(0, .ref 117), (1, .int v1), (2, .int v2), (3, .int v3), (4, .int v4)], [], σ) (fun v s => v = some (.int r) ∧ s = σ2) := by
  unfold m_ownOf_117_H10 at h
  refine Rc.blk (c := [_, _]) (s2 := (if (σ.1 118 0) ≤ v4 then 50 else 21, [(0, .ref 117), (1, .int v1), (2, .int v2), (3, .int v3), (4, .int v4)], [], σ)) 3 rfl rfl (conj_c (rfl) (conj_c (⟨rfl, inB_in (by decide)⟩) (trivial))) ?_
  by_cases c5 : (σ.1 118 0) ≤ v4
  · rw [if_pos c5] at h
    refine Rc.ifp c5 ?_
    refine Rc.pick [] (lv2 := []) rfl ?_
    exact m_ownOf_117_b50_ok hd _ _ _ h
  · rw [if_neg c5] at h
    refine Rc.ifn c5 ?_
    refine Rc.blk (c := []) (s2 := (if v1 < 0 then 50 else 25, [(0, .ref 117), (1, .int v1), (2, .int v2), (3, .int v3), (4, .int v4)], [], σ)) 4 rfl rfl (trivial) ?_
    by_cases c4 : v1 < 0
    · rw [if_pos c4] at h
      refine Rc.ifp c4 ?_
      refine Rc.pick [] (lv2 := []) rfl ?_
      exact m_ownOf_117_b50_ok hd _ _ _ h
    · rw [if_neg c4] at h
      refine Rc.ifn c4 ?_
      refine Rc.blk (c := []) (s2 := (28, [(0, .ref 117), (1, .int v1), (2, .int v2), (3, .int v3), (4, .int v4)], [.int v4, .int v3], σ)) 5 rfl rfl (trivial) ?_
      obtain ⟨r1, σ1, hc, h⟩ := bd_some h
      refine Rc.call (Ev.mono d) (v := some (.int r1)) (as := [.int v3, .int v4]) (r := []) 6 rfl rfl rfl rfl (Nat.le_of_ble_eq_true rfl) (m_has_s_ok (by omega) hc) ?_
      show Rc _ _ _ (31, [(0, .ref 117), (1, .int v1), (2, .int v2), (3, .int v3), (4, .int v4)], [.int r1], σ1) _
      refine Rc.blk (c := []) (s2 := (if r1 = 0 then 44 else 34, [(0, .ref 117), (1, .int v1), (2, .int v2), (3, .int v3), (4, .int v4)], [], σ1)) 7 rfl rfl (trivial) ?_
      by_cases c3 : r1 = 0
      · rw [if_pos c3] at h
        refine Rc.ifp c3 ?_
        exact m_ownOf_117_b44_ok hd hk10 _ _ _ _ _ _ _ h
      · rw [if_neg c3] at h
        refine Rc.ifn c3 ?_
        refine Rc.blk (c := []) (s2 := (if ¬ v2 = 0 then 41 else 38, [(0, .ref 117), (1, .int v1), (2, .int v2), (3, .int v3), (4, .int v4)], [], σ1)) 8 rfl rfl (trivial) ?_
        by_cases c2 : v2 = 0
        · rw [if_pos c2] at h
          refine Rc.ifn (fun q => q c2) ?_
          refine Rc.blk (c := []) (s2 := (40, [(0, .ref 117), (1, .int v1), (2, .int v2), (3, .int v3), (4, .int v4)], [.int v4], σ1)) 9 rfl rfl (trivial) ?_
          obtain ⟨rfl, rfl⟩ := some_pair h
          exact Rc.ret 10 rfl rfl rfl trivial ⟨rfl, rfl⟩
        · rw [if_neg c2] at h
          refine Rc.ifp c2 ?_
          refine Rc.blk (c := []) (s2 := (44, [(2, .int (v2 + (-1))), (0, .ref 117), (1, .int v1), (3, .int v3), (4, .int v4)], [], σ1)) 11 rfl rfl (trivial) ?_
          refine Rc.pick [1, 2, 0, 3, 4] (lv2 := [(0, .ref 117), (1, .int v1), (2, .int (v2 + (-1))), (3, .int v3), (4, .int v4)]) rfl ?_
          exact m_ownOf_117_b44_ok hd hk10 _ _ _ _ _ _ _ h
theorem m_ownOf_117_L10_ok {d : Nat} (hd : 5 ≤ d) : ∀ (n : Nat) (v1 : Int32) (v2 : Int32) (v3 : Int32) (v4 : Int32) (σ : Sg) (r : Int32) (σ2 : Sg), m_ownOf_117_L10 n v1 v2 v3 v4 σ = some (r, σ2) → Rc none (Ev MT CT d) sg149 (10, [(0, .ref 117), (1, .int v1), (2, .int v2), (3, .int v3), (4, .int v4)], [], σ) (fun v s => v = some (.int r) ∧ s = σ2)
  | 0, _, _, _, _, _, _, _, h => by cases h
  | n + 1, v1, v2, v3, v4, σ, r, σ2, h => m_ownOf_117_H10_ok hd (m_ownOf_117_L10_ok hd n) v1 v2 v3 v4 σ r σ2 h
theorem m_ownOf_117_ok {d : Nat} (hd : 6 ≤ d) {v1 : Int32} {σ : Sg} {r : Int32} {σ2 : Sg} (h : m_ownOf_117 v1 σ = some (r, σ2)) : Ev MT CT d 149 [.ref 117, .int v1] σ (fun v s => v = some (.int r) ∧ s = σ2) := by
  obtain ⟨d, rfl⟩ : ∃ e, d = e + 1 := ⟨d - 1, by omega⟩
  refine ⟨Nat.le_of_ble_eq_true rfl, ?_⟩
  show Rc none (Ev MT CT d) sg149 (0, [(0, .ref 117), (1, .int v1)], [], σ) _
  unfold m_ownOf_117 at h
  have hd : 5 ≤ d := by omega
  refine Rc.blk (c := []) (s2 := (3, [(2, .int v1), (0, .ref 117), (1, .int v1)], [.ref 117], σ)) 0 rfl rfl (trivial) ?_
  obtain ⟨r1, σ1, hc, h⟩ := bd_some h
  refine Rc.call (Ev.mono d) (v := some (.int r1)) (as := [.ref 117]) (r := []) 1 rfl rfl rfl rfl ⟨rfl, Nat.le_of_ble_eq_true rfl⟩ (m_loose_117_ok (by omega) hc) ?_
  show Rc _ _ _ (6, [(2, .int v1), (0, .ref 117), (1, .int v1)], [.int r1], σ1) _
  refine Rc.blk (c := []) (s2 := (10, [(4, .int 0), (3, .int r1), (2, .int v1), (0, .ref 117), (1, .int v1)], [], σ1)) 2 rfl rfl (trivial) ?_
  refine Rc.pick [3, 4, 2, 1, 0] (lv2 := [(0, .ref 117), (1, .int v1), (2, .int v1), (3, .int r1), (4, .int 0)]) rfl ?_
  exact m_ownOf_117_L10_ok hd fu _ _ _ _ _ _ _ h
theorem m_group_117_b18_ok {d : Nat} (hd : 6 ≤ d) (σ : Sg) (r : Int32) (σ2 : Sg) (h : m_group_117_b18 σ = some (r, σ2)) : Rc none (Ev MT CT d) sg153 (18, [(0, .ref 117)], [], σ) (fun v s => v = some (.int r) ∧ s = σ2) := by
  unfold m_group_117_b18 at h
  refine Rc.blk (c := []) (s2 := (20, [(0, .ref 117)], [.int 1, .ref 117], σ)) 6 rfl rfl (trivial) ?_
  obtain ⟨r1, σ1, hc, h⟩ := bd_some h
  refine Rc.call (Ev.mono d) (v := some (.int r1)) (as := [.ref 117, .int 1]) (r := []) 7 rfl rfl rfl rfl ⟨rfl, Nat.le_of_ble_eq_true rfl⟩ (m_refuseFar_117_ok (by omega) hc) ?_
  show Rc _ _ _ (23, [(0, .ref 117)], [.int r1], σ1) _
  obtain ⟨rfl, rfl⟩ := some_pair h
  exact Rc.ret 8 rfl rfl rfl trivial ⟨rfl, rfl⟩
theorem m_group_117_ok {d : Nat} (hd : 7 ≤ d) {v1 : Int32} {v2 : Int32} {σ : Sg} {r : Int32} {σ2 : Sg} (h : m_group_117 v1 v2 σ = some (r, σ2)) : Ev MT CT d 153 [.ref 117, .int v1, .int v2] σ (fun v s => v = some (.int r) ∧ s = σ2) := by
  obtain ⟨d, rfl⟩ : ∃ e, d = e + 1 := ⟨d - 1, by omega⟩
  refine ⟨Nat.le_of_ble_eq_true rfl, ?_⟩
  show Rc none (Ev MT CT d) sg153 (0, [(0, .ref 117), (1, .int v1), (2, .int v2)], [], σ) _
  unfold m_group_117 at h
  have hd : 6 ≤ d := by omega
  refine Rc.blk (c := []) (s2 := (2, [(0, .ref 117), (1, .int v1), (2, .int v2)], [.int v1, .ref 117], σ)) 0 rfl rfl (trivial) ?_
  obtain ⟨r1, σ1, hc, h⟩ := bd_some h
  refine Rc.call (Ev.mono d) (v := some (.int r1)) (as := [.ref 117, .int v1]) (r := []) 1 rfl rfl rfl rfl ⟨rfl, Nat.le_of_ble_eq_true rfl⟩ (m_ownOf_117_ok (by omega) hc) ?_
  show Rc _ _ _ (5, [(0, .ref 117), (1, .int v1), (2, .int v2)], [.int r1], σ1) _
  refine Rc.blk (c := []) (s2 := (if r1 < 0 then 18 else 10, [(3, .int r1), (0, .ref 117), (1, .int v1), (2, .int v2)], [], σ1)) 2 rfl rfl (trivial) ?_
  by_cases c6 : r1 < 0
  · rw [if_pos c6] at h
    refine Rc.ifp c6 ?_
    refine Rc.pick [1] (lv2 := [(0, .ref 117)]) rfl ?_
    exact m_group_117_b18_ok hd _ _ _ h
  · rw [if_neg c6] at h
    refine Rc.ifn c6 ?_
    refine Rc.blk (c := []) (s2 := (12, [(3, .int r1), (0, .ref 117), (1, .int v1), (2, .int v2)], [.int v2, .ref 117], σ1)) 3 rfl rfl (trivial) ?_
    obtain ⟨r2, σ2, hc, h⟩ := bd_some h
    refine Rc.call (Ev.mono d) (v := some (.int r2)) (as := [.ref 117, .int v2]) (r := []) 4 rfl rfl rfl rfl ⟨rfl, Nat.le_of_ble_eq_true rfl⟩ (m_isOne_117_ok (by omega) hc) ?_
    show Rc _ _ _ (15, [(3, .int r1), (0, .ref 117), (1, .int v1), (2, .int v2)], [.int r2], σ2) _
    refine Rc.blk (c := []) (s2 := (if ¬ r2 = 0 then 24 else 18, [(3, .int r1), (0, .ref 117), (1, .int v1), (2, .int v2)], [], σ2)) 5 rfl rfl (trivial) ?_
    by_cases c5 : r2 = 0
    · rw [if_pos c5] at h
      refine Rc.ifn (fun q => q c5) ?_
      refine Rc.pick [1] (lv2 := [(0, .ref 117)]) rfl ?_
      exact m_group_117_b18_ok hd _ _ _ h
    · rw [if_neg c5] at h
      refine Rc.ifp c5 ?_
      refine Rc.blk (c := []) (s2 := (26, [(3, .int r1), (0, .ref 117), (1, .int v1), (2, .int v2)], [.int r1, .ref 117], σ2)) 9 rfl rfl (trivial) ?_
      obtain ⟨r3, σ3, hc, h⟩ := bd_some h
      refine Rc.call (Ev.mono d) (v := none) (as := [.ref 117, .int r1]) (r := []) 10 rfl rfl rfl rfl ⟨rfl, Nat.le_of_ble_eq_true rfl⟩ (m_groups_117_ok (by omega) hc) ?_
      show Rc _ _ _ (29, [(3, .int r1), (0, .ref 117), (1, .int v1), (2, .int v2)], [], σ3) _
      obtain ⟨g4, h⟩ := gd_some h
      refine Rc.blk (c := [_, _]) (s2 := (36, [(3, .int r1), (0, .ref 117), (1, .int v1), (2, .int v2)], [.int ((σ3.2 124 v2.toNatClampNeg).toInt32)], σ3)) 11 rfl rfl (conj_c (rfl) (conj_c (⟨rfl, inB_in g4⟩) (trivial))) ?_
      obtain ⟨rfl, rfl⟩ := some_pair h
      exact Rc.ret 12 rfl rfl rfl trivial ⟨rfl, rfl⟩
