/-! ===== the small machine does what the functions say ===== -/
theorem m_adds_117_H37_ok (d0 : Nat) (rs : Int32 → Int32 → Int32 → Sg → Option (Int32 × Sg)) (hrs : ∀ (v1 : Int32) (v2 : Int32) (v3 : Int32) (σ : Sg) (r : Int32) (σ2 : Sg), rs v1 v2 v3 σ = some (r, σ2) → Ev MT CT d0 191 [.ref 117, .int v1, .int v2, .int v3] σ (fun v s => v = some (.int r) ∧ s = σ2)) {d : Nat} (hd : 3 ≤ d) (hd0 : d0 + 0 ≤ d) {k37 : Int32 → Int32 → Int32 → Int32 → Sg → Option (Int32 × Sg)} (hk37 : ∀ (v1 : Int32) (v2 : Int32) (v4 : Int32) (v5 : Int32) (σ : Sg) (r : Int32) (σ2 : Sg), k37 v1 v2 v4 v5 σ = some (r, σ2) → Rc none (Ev MT CT d) sg191 (37, [(0, .ref 117), (1, .int v1), (2, .int v2), (4, .int v4), (5, .int v5)], [], σ) (fun v s => v = some (.int r) ∧ s = σ2)) (v1 : Int32) (v2 : Int32) (v4 : Int32) (v5 : Int32) (σ : Sg) (r : Int32) (σ2 : Sg) (h : m_adds_117_H37 rs k37 v1 v2 v4 v5 σ = some (r, σ2)) : Rc none (Ev MT CT d) sg191 (37, [(0, .ref 117), (1, .int v1), (2, .int v2), (4, .int v4), (5, .int v5)], [], σ) (fun v s => v = some (.int r) ∧ s = σ2) := by
  unfold m_adds_117_H37 at h
  refine Rc.blk (c := [_, _]) (s2 := (if (2 * (σ.1 118 0)) ≤ v5 then 76 else 50, [(0, .ref 117), (1, .int v1), (2, .int v2), (4, .int v4), (5, .int v5)], [], σ)) 9 rfl rfl (conj_c (rfl) (conj_c (⟨rfl, inB_in (by decide)⟩) (trivial))) ?_
  by_cases c3 : (2 * (σ.1 118 0)) ≤ v5
  · rw [if_pos c3] at h
    refine Rc.ifp c3 ?_
    refine Rc.blk (c := []) (s2 := (78, [(0, .ref 117), (1, .int v1), (2, .int v2), (4, .int v4), (5, .int v5)], [.int v4], σ)) 13 rfl rfl (trivial) ?_
    obtain ⟨rfl, rfl⟩ := some_pair h
    exact Rc.ret 14 rfl rfl rfl trivial ⟨rfl, rfl⟩
  · rw [if_neg c3] at h
    refine Rc.ifn c3 ?_
    obtain ⟨g1, h⟩ := gd_some h
    refine Rc.blk (c := [_, _]) (s2 := (65, [(0, .ref 117), (1, .int v1), (2, .int v2), (4, .int v4), (5, .int v5)], [.int v4, .int v2, .int (v1 + 1), .ref 117], si σ 129 v1.toNatClampNeg v5)) 10 rfl rfl (conj_c (rfl) (conj_c (⟨rfl, inB_in g1⟩) (trivial))) ?_
    obtain ⟨r2, σ2, hc, h⟩ := bd_some h
    refine Rc.call (Ev.mono d) (v := some (.int r2)) (as := [.ref 117, .int (v1 + 1), .int v2, .int v4]) (r := []) 11 rfl rfl rfl rfl ⟨rfl, Nat.le_of_ble_eq_true rfl⟩ (Ev.le (by omega) (hrs _ _ _ _ _ _ hc)) ?_
    show Rc _ _ _ (68, [(0, .ref 117), (1, .int v1), (2, .int v2), (4, .int v4), (5, .int v5)], [.int r2], σ2) _
    refine Rc.blk (c := []) (s2 := (37, [(5, .int (v5 + 1)), (4, .int r2), (0, .ref 117), (1, .int v1), (2, .int v2)], [], σ2)) 12 rfl rfl (trivial) ?_
    refine Rc.pick [2, 3, 4, 1, 0] (lv2 := [(0, .ref 117), (1, .int v1), (2, .int v2), (4, .int r2), (5, .int (v5 + 1))]) rfl ?_
    exact hk37 _ _ _ _ _ _ _ h
theorem m_adds_117_L37_ok (d0 : Nat) (rs : Int32 → Int32 → Int32 → Sg → Option (Int32 × Sg)) (hrs : ∀ (v1 : Int32) (v2 : Int32) (v3 : Int32) (σ : Sg) (r : Int32) (σ2 : Sg), rs v1 v2 v3 σ = some (r, σ2) → Ev MT CT d0 191 [.ref 117, .int v1, .int v2, .int v3] σ (fun v s => v = some (.int r) ∧ s = σ2)) {d : Nat} (hd : 3 ≤ d) (hd0 : d0 + 0 ≤ d) : ∀ (n : Nat) (v1 : Int32) (v2 : Int32) (v4 : Int32) (v5 : Int32) (σ : Sg) (r : Int32) (σ2 : Sg), m_adds_117_L37 rs n v1 v2 v4 v5 σ = some (r, σ2) → Rc none (Ev MT CT d) sg191 (37, [(0, .ref 117), (1, .int v1), (2, .int v2), (4, .int v4), (5, .int v5)], [], σ) (fun v s => v = some (.int r) ∧ s = σ2)
  | 0, _, _, _, _, _, _, _, h => by cases h
  | n + 1, v1, v2, v4, v5, σ, r, σ2, h => m_adds_117_H37_ok d0 rs hrs hd hd0 (m_adds_117_L37_ok d0 rs hrs hd hd0 n) v1 v2 v4 v5 σ r σ2 h
theorem m_adds_117_b35_ok (d0 : Nat) (rs : Int32 → Int32 → Int32 → Sg → Option (Int32 × Sg)) (hrs : ∀ (v1 : Int32) (v2 : Int32) (v3 : Int32) (σ : Sg) (r : Int32) (σ2 : Sg), rs v1 v2 v3 σ = some (r, σ2) → Ev MT CT d0 191 [.ref 117, .int v1, .int v2, .int v3] σ (fun v s => v = some (.int r) ∧ s = σ2)) {d : Nat} (hd : 3 ≤ d) (hd0 : d0 + 0 ≤ d) (v1 : Int32) (v2 : Int32) (v4 : Int32) (s0 : Int32) (σ : Sg) (r : Int32) (σ2 : Sg) (h : m_adds_117_b35 rs v1 v2 v4 s0 σ = some (r, σ2)) : Rc none (Ev MT CT d) sg191 (35, [(0, .ref 117), (1, .int v1), (2, .int v2), (4, .int v4)], [.int s0], σ) (fun v s => v = some (.int r) ∧ s = σ2) := by
  unfold m_adds_117_b35 at h
  refine Rc.blk (c := []) (s2 := (37, [(5, .int s0), (0, .ref 117), (1, .int v1), (2, .int v2), (4, .int v4)], [], σ)) 8 rfl rfl (trivial) ?_
  refine Rc.pick [1, 2, 3, 4, 0] (lv2 := [(0, .ref 117), (1, .int v1), (2, .int v2), (4, .int v4), (5, .int s0)]) rfl ?_
  exact m_adds_117_L37_ok d0 rs hrs hd hd0 fu _ _ _ _ _ _ _ h
theorem m_adds_117_H_ok (d0 : Nat) (rs : Int32 → Int32 → Int32 → Sg → Option (Int32 × Sg)) (hrs : ∀ (v1 : Int32) (v2 : Int32) (v3 : Int32) (σ : Sg) (r : Int32) (σ2 : Sg), rs v1 v2 v3 σ = some (r, σ2) → Ev MT CT d0 191 [.ref 117, .int v1, .int v2, .int v3] σ (fun v s => v = some (.int r) ∧ s = σ2)) {d : Nat} (hd : 4 ≤ d) (hd0 : d0 + 1 ≤ d) {v1 : Int32} {v2 : Int32} {v3 : Int32} {σ : Sg} {r : Int32} {σ2 : Sg} (h : m_adds_117_H rs v1 v2 v3 σ = some (r, σ2)) : Ev MT CT d 191 [.ref 117, .int v1, .int v2, .int v3] σ (fun v s => v = some (.int r) ∧ s = σ2) := by
  obtain ⟨d, rfl⟩ : ∃ e, d = e + 1 := ⟨d - 1, by omega⟩
  refine ⟨Nat.le_of_ble_eq_true rfl, ?_⟩
  show Rc none (Ev MT CT d) sg191 (0, [(0, .ref 117), (1, .int v1), (2, .int v2), (3, .int v3)], [], σ) _
  unfold m_adds_117_H at h
  have hd : 3 ≤ d := by omega
  have hd0 : d0 + 0 ≤ d := by omega
  refine Rc.blk (c := []) (s2 := (if ¬ v1 = v2 then 16 else 5, [(0, .ref 117), (1, .int v1), (2, .int v2), (3, .int v3)], [], σ)) 0 rfl rfl (trivial) ?_
  by_cases c5 : v1 = v2
  · rw [if_pos c5] at h
    refine Rc.ifn (fun q => q c5) ?_
    refine Rc.blk (c := []) (s2 := (9, [(0, .ref 117), (1, .int v1), (2, .int v2), (3, .int v3)], [.int v2, .ref 117, .int v3, .ref 117], σ)) 1 rfl rfl (trivial) ?_
    obtain ⟨r3, σ3, hc, h⟩ := bd_some h
    refine Rc.call (Ev.mono d) (v := some (.long r3)) (as := [.ref 117, .int v2]) (r := [.int v3, .ref 117]) 2 rfl rfl rfl rfl ⟨rfl, Nat.le_of_ble_eq_true rfl⟩ (m_keyOf_117_ok (by omega) hc) ?_
    show Rc _ _ _ (12, [(0, .ref 117), (1, .int v1), (2, .int v2), (3, .int v3)], [.long r3, .int v3, .ref 117], σ3) _
    obtain ⟨r4, σ4, hc, h⟩ := bd_some h
    refine Rc.call (Ev.mono d) (v := some (.int r4)) (as := [.ref 117, .int v3, .long r3]) (r := []) 3 rfl rfl rfl rfl ⟨rfl, Nat.le_of_ble_eq_true rfl⟩ (m_differs_117_ok (by omega) hc) ?_
    show Rc _ _ _ (15, [(0, .ref 117), (1, .int v1), (2, .int v2), (3, .int v3)], [.int r4], σ4) _
    obtain ⟨rfl, rfl⟩ := some_pair h
    exact Rc.ret 4 rfl rfl rfl trivial ⟨rfl, rfl⟩
  · rw [if_neg c5] at h
    refine Rc.ifp c5 ?_
    refine Rc.blk (c := []) (s2 := (if ¬ v1 = 0 then 27 else 23, [(4, .int v3), (0, .ref 117), (1, .int v1), (2, .int v2), (3, .int v3)], [], σ)) 5 rfl rfl (trivial) ?_
    by_cases c2 : v1 = 0
    · rw [if_pos c2] at h
      refine Rc.ifn (fun q => q c2) ?_
      refine Rc.blk (c := []) (s2 := (35, [(4, .int v3), (0, .ref 117), (1, .int v1), (2, .int v2), (3, .int v3)], [.int 0], σ)) 6 rfl rfl (trivial) ?_
      refine Rc.pick [1, 2, 3, 0] (lv2 := [(0, .ref 117), (1, .int v1), (2, .int v2), (4, .int v3)]) rfl ?_
      exact m_adds_117_b35_ok d0 rs hrs hd hd0 _ _ _ _ _ _ _ h
    · rw [if_neg c2] at h
      refine Rc.ifp c2 ?_
      obtain ⟨g1, h⟩ := gd_some h
      refine Rc.blk (c := [_, _]) (s2 := (35, [(4, .int v3), (0, .ref 117), (1, .int v1), (2, .int v2), (3, .int v3)], [.int (σ.1 129 (v1 - 1).toNatClampNeg)], σ)) 7 rfl rfl (conj_c (rfl) (conj_c (⟨rfl, inB_in g1⟩) (trivial))) ?_
      refine Rc.pick [1, 2, 3, 0] (lv2 := [(0, .ref 117), (1, .int v1), (2, .int v2), (4, .int v3)]) rfl ?_
      exact m_adds_117_b35_ok d0 rs hrs hd hd0 _ _ _ _ _ _ _ h
theorem m_adds_117_lv : ∀ (n : Nat) (v1 : Int32) (v2 : Int32) (v3 : Int32) (σ : Sg) (r : Int32) (σ2 : Sg), m_adds_117 n v1 v2 v3 σ = some (r, σ2) → Ev MT CT (4 + 1 * n) 191 [.ref 117, .int v1, .int v2, .int v3] σ (fun v s => v = some (.int r) ∧ s = σ2)
  | 0, _, _, _, _, _, _, h => by cases h
  | n + 1, v1, v2, v3, σ, r, σ2, h => m_adds_117_H_ok (4 + 1 * n) (m_adds_117 n) (m_adds_117_lv n) (by omega) (by omega) h
theorem m_adds_117_top {d : Nat} (hd : 16 ≤ d) {v1 : Int32} {v2 : Int32} {v3 : Int32} {σ : Sg} {r : Int32} {σ2 : Sg} (h : m_adds_117 12 v1 v2 v3 σ = some (r, σ2)) : Ev MT CT d 191 [.ref 117, .int v1, .int v2, .int v3] σ (fun v s => v = some (.int r) ∧ s = σ2) := Ev.le (by omega) (m_adds_117_lv 12 v1 v2 v3 σ r σ2 h)
theorem m_had_117_H26_ok {d : Nat} (hd : 16 ≤ d) {k26 : Int32 → Int32 → Int32 → Sg → Option (Int32 × Sg)} (hk26 : ∀ (v1 : Int32) (v2 : Int32) (v3 : Int32) (σ : Sg) (r : Int32) (σ2 : Sg), k26 v1 v2 v3 σ = some (r, σ2) → Rc none (Ev MT CT d) sg192 (26, [(0, .ref 117), (1, .int v1), (2, .int v2), (3, .int v3)], [], σ) (fun v s => v = some (.int r) ∧ s = σ2)) (v1 : Int32) (v2 : Int32) (v3 : Int32) (σ : Sg) (r : Int32) (σ2 : Sg) (h : m_had_117_H26 k26 v1 v2 v3 σ = some (r, σ2)) : Rc none (Ev MT CT d) sg192 (26, [(0, .ref 117), (1, .int v1), (2, .int v2), (3, .int v3)], [], σ) (fun v s => v = some (.int r) ∧ s = σ2) := by
  unfold m_had_117_H26 at h
  refine Rc.blk (c := []) (s2 := (if v1 < v3 then 45 else 31, [(0, .ref 117), (1, .int v1), (2, .int v2), (3, .int v3)], [], σ)) 9 rfl rfl (trivial) ?_
  by_cases c2 : v1 < v3
  · rw [if_pos c2] at h
    refine Rc.ifp c2 ?_
    refine Rc.blk (c := []) (s2 := (46, [(0, .ref 117), (1, .int v1), (2, .int v2), (3, .int v3)], [.int v2], σ)) 13 rfl rfl (trivial) ?_
    obtain ⟨rfl, rfl⟩ := some_pair h
    exact Rc.ret 14 rfl rfl rfl trivial ⟨rfl, rfl⟩
  · rw [if_neg c2] at h
    refine Rc.ifn c2 ?_
    refine Rc.blk (c := []) (s2 := (35, [(0, .ref 117), (1, .int v1), (2, .int v2), (3, .int v3)], [.int v2, .int v3, .int 0, .ref 117], σ)) 10 rfl rfl (trivial) ?_
    obtain ⟨r1, σ1, hc, h⟩ := bd_some h
    refine Rc.call (Ev.mono d) (v := some (.int r1)) (as := [.ref 117, .int 0, .int v3, .int v2]) (r := []) 11 rfl rfl rfl rfl ⟨rfl, Nat.le_of_ble_eq_true rfl⟩ (m_adds_117_top (by omega) hc) ?_
    show Rc _ _ _ (38, [(0, .ref 117), (1, .int v1), (2, .int v2), (3, .int v3)], [.int r1], σ1) _
    refine Rc.blk (c := []) (s2 := (26, [(3, .int (v3 + 1)), (2, .int r1), (0, .ref 117), (1, .int v1)], [], σ1)) 12 rfl rfl (trivial) ?_
    refine Rc.pick [2, 3, 1, 0] (lv2 := [(0, .ref 117), (1, .int v1), (2, .int r1), (3, .int (v3 + 1))]) rfl ?_
    exact hk26 _ _ _ _ _ _ h
theorem m_had_117_L26_ok {d : Nat} (hd : 16 ≤ d) : ∀ (n : Nat) (v1 : Int32) (v2 : Int32) (v3 : Int32) (σ : Sg) (r : Int32) (σ2 : Sg), m_had_117_L26 n v1 v2 v3 σ = some (r, σ2) → Rc none (Ev MT CT d) sg192 (26, [(0, .ref 117), (1, .int v1), (2, .int v2), (3, .int v3)], [], σ) (fun v s => v = some (.int r) ∧ s = σ2)
  | 0, _, _, _, _, _, _, h => by cases h
  | n + 1, v1, v2, v3, σ, r, σ2, h => m_had_117_H26_ok hd (m_had_117_L26_ok hd n) v1 v2 v3 σ r σ2 h
theorem m_had_117_ok {d : Nat} (hd : 17 ≤ d) {v1 : Int32} {σ : Sg} {r : Int32} {σ2 : Sg} (h : m_had_117 v1 σ = some (r, σ2)) : Ev MT CT d 192 [.ref 117, .int v1] σ (fun v s => v = some (.int r) ∧ s = σ2) := by
  obtain ⟨d, rfl⟩ : ∃ e, d = e + 1 := ⟨d - 1, by omega⟩
  refine ⟨Nat.le_of_ble_eq_true rfl, ?_⟩
  show Rc none (Ev MT CT d) sg192 (0, [(0, .ref 117), (1, .int v1)], [], σ) _
  unfold m_had_117 at h
  have hd : 16 ≤ d := by omega
  refine Rc.blk (c := []) (s2 := (if 0 ≤ v1 then 10 else 4, [(0, .ref 117), (1, .int v1)], [], σ)) 0 rfl rfl (trivial) ?_
  by_cases c4 : 0 ≤ v1
  · rw [if_pos c4] at h
    refine Rc.ifp c4 ?_
    refine Rc.blk (c := []) (s2 := (if v1 ≤ 3 then 22 else 15, [(0, .ref 117), (1, .int v1)], [], σ)) 4 rfl rfl (trivial) ?_
    by_cases c2 : v1 ≤ 3
    · rw [if_pos c2] at h
      refine Rc.ifp c2 ?_
      refine Rc.blk (c := []) (s2 := (26, [(3, .int 0), (2, .int 0), (0, .ref 117), (1, .int v1)], [], σ)) 8 rfl rfl (trivial) ?_
      refine Rc.pick [2, 3, 1, 0] (lv2 := [(0, .ref 117), (1, .int v1), (2, .int 0), (3, .int 0)]) rfl ?_
      exact m_had_117_L26_ok hd fu _ _ _ _ _ _ h
    · rw [if_neg c2] at h
      refine Rc.ifn c2 ?_
      refine Rc.blk (c := []) (s2 := (18, [(0, .ref 117), (1, .int v1)], [.int 6, .ref 117], σ)) 5 rfl rfl (trivial) ?_
      obtain ⟨r1, σ1, hc, h⟩ := bd_some h
      refine Rc.call (Ev.mono d) (v := some (.int r1)) (as := [.ref 117, .int 6]) (r := []) 6 rfl rfl rfl rfl ⟨rfl, Nat.le_of_ble_eq_true rfl⟩ (m_refuse_117_ok (by omega) hc) ?_
      show Rc _ _ _ (21, [(0, .ref 117), (1, .int v1)], [.int r1], σ1) _
      obtain ⟨rfl, rfl⟩ := some_pair h
      exact Rc.ret 7 rfl rfl rfl trivial ⟨rfl, rfl⟩
  · rw [if_neg c4] at h
    refine Rc.ifn c4 ?_
    refine Rc.blk (c := []) (s2 := (6, [(0, .ref 117), (1, .int v1)], [.int 4, .ref 117], σ)) 1 rfl rfl (trivial) ?_
    obtain ⟨r3, σ3, hc, h⟩ := bd_some h
    refine Rc.call (Ev.mono d) (v := some (.int r3)) (as := [.ref 117, .int 4]) (r := []) 2 rfl rfl rfl rfl ⟨rfl, Nat.le_of_ble_eq_true rfl⟩ (m_refuse_117_ok (by omega) hc) ?_
    show Rc _ _ _ (9, [(0, .ref 117), (1, .int v1)], [.int r3], σ3) _
    obtain ⟨rfl, rfl⟩ := some_pair h
    exact Rc.ret 3 rfl rfl rfl trivial ⟨rfl, rfl⟩
theorem m_here_117_b24_ok {d : Nat} (hd : 0 ≤ d) (s0 : Int32) (σ : Sg) (r : Int32) (σ2 : Sg) (h : m_here_117_b24 s0 σ = some (r, σ2)) : Rc none (Ev MT CT d) sg193 (24, [], [.int s0], σ) (fun v s => v = some (.int r) ∧ s = σ2) := by
  unfold m_here_117_b24 at h
  obtain ⟨rfl, rfl⟩ := some_pair h
  exact Rc.ret 3 rfl rfl rfl trivial ⟨rfl, rfl⟩
theorem m_here_117_ok {d : Nat} (hd : 1 ≤ d) {σ : Sg} {r : Int32} {σ2 : Sg} (h : m_here_117 σ = some (r, σ2)) : Ev MT CT d 193 [.ref 117] σ (fun v s => v = some (.int r) ∧ s = σ2) := by
  obtain ⟨d, rfl⟩ : ∃ e, d = e + 1 := ⟨d - 1, by omega⟩
  refine ⟨Nat.le_of_ble_eq_true rfl, ?_⟩
  show Rc none (Ev MT CT d) sg193 (0, [(0, .ref 117)], [], σ) _
  unfold m_here_117 at h
  have hd : 0 ≤ d := by omega
  refine Rc.blk (c := [_, _]) (s2 := (if (σ.1 117 5) ≤ (σ.1 117 17) then 23 else 11, [(0, .ref 117)], [], σ)) 0 rfl rfl (conj_c (rfl) (conj_c (rfl) (trivial))) ?_
  by_cases c2 : (σ.1 117 5) ≤ (σ.1 117 17)
  · rw [if_pos c2] at h
    refine Rc.ifp c2 ?_
    refine Rc.blk (c := []) (s2 := (24, [(0, .ref 117)], [.int (-1)], σ)) 2 rfl rfl (trivial) ?_
    refine Rc.pick [] (lv2 := []) rfl ?_
    exact m_here_117_b24_ok hd _ _ _ _ h
  · rw [if_neg c2] at h
    refine Rc.ifn c2 ?_
    obtain ⟨g1, h⟩ := gd_some h
    refine Rc.blk (c := [_, _, _]) (s2 := (24, [(0, .ref 117)], [.int (σ.1 121 (σ.1 117 17).toNatClampNeg)], σ)) 1 rfl rfl (conj_c (rfl) (conj_c (rfl) (conj_c (⟨rfl, inB_in g1⟩) (trivial)))) ?_
    refine Rc.pick [] (lv2 := []) rfl ?_
    exact m_here_117_b24_ok hd _ _ _ _ h
theorem m_isSigned_117_b21_ok {d : Nat} (hd : 1 ≤ d) (s0 : Int32) (σ : Sg) (r : Int32) (σ2 : Sg) (h : m_isSigned_117_b21 s0 σ = some (r, σ2)) : Rc none (Ev MT CT d) sg194 (21, [], [.int s0], σ) (fun v s => v = some (.int r) ∧ s = σ2) := by
  unfold m_isSigned_117_b21 at h
  obtain ⟨g, h⟩ := gd_some h
  obtain ⟨rfl, rfl⟩ := some_pair h
  exact Rc.ret 8 rfl rfl rfl (nbB_ok g) ⟨rfl, rfl⟩
theorem m_isSigned_117_b16_ok {d : Nat} (hd : 1 ≤ d) (σ : Sg) (r : Int32) (σ2 : Sg) (h : m_isSigned_117_b16 σ = some (r, σ2)) : Rc none (Ev MT CT d) sg194 (16, [], [], σ) (fun v s => v = some (.int r) ∧ s = σ2) := by
  unfold m_isSigned_117_b16 at h
  refine Rc.blk (c := []) (s2 := (21, [], [.int 1], σ)) 6 rfl rfl (trivial) ?_
  exact m_isSigned_117_b21_ok hd _ _ _ _ h
theorem m_isSigned_117_ok {d : Nat} (hd : 2 ≤ d) {v1 : Int32} {v2 : Int32} {σ : Sg} {r : Int32} {σ2 : Sg} (h : m_isSigned_117 v1 v2 σ = some (r, σ2)) : Ev MT CT d 194 [.ref 117, .int v1, .int v2] σ (fun v s => v = some (.int r) ∧ s = σ2) := by
  obtain ⟨d, rfl⟩ : ∃ e, d = e + 1 := ⟨d - 1, by omega⟩
  refine ⟨Nat.le_of_ble_eq_true rfl, ?_⟩
  show Rc none (Ev MT CT d) sg194 (0, [(0, .ref 117), (1, .int v1), (2, .int v2)], [], σ) _
  unfold m_isSigned_117 at h
  have hd : 1 ≤ d := by omega
  refine Rc.blk (c := []) (s2 := (1, [(0, .ref 117), (1, .int v1), (2, .int v2)], [.ref 117], σ)) 0 rfl rfl (trivial) ?_
  obtain ⟨r1, σ1, hc, h⟩ := bd_some h
  refine Rc.call (Ev.mono d) (v := some (.int r1)) (as := [.ref 117]) (r := []) 1 rfl rfl rfl rfl ⟨rfl, Nat.le_of_ble_eq_true rfl⟩ (m_here_117_ok (by omega) hc) ?_
  show Rc _ _ _ (4, [(0, .ref 117), (1, .int v1), (2, .int v2)], [.int r1], σ1) _
  refine Rc.blk (c := []) (s2 := (if r1 = v1 then 16 else 8, [(0, .ref 117), (1, .int v1), (2, .int v2)], [], σ1)) 2 rfl rfl (trivial) ?_
  by_cases c4 : r1 = v1
  · rw [if_pos c4] at h
    refine Rc.ifp c4 ?_
    refine Rc.pick [] (lv2 := []) rfl ?_
    exact m_isSigned_117_b16_ok hd _ _ _ h
  · rw [if_neg c4] at h
    refine Rc.ifn c4 ?_
    refine Rc.blk (c := []) (s2 := (9, [(0, .ref 117), (1, .int v1), (2, .int v2)], [.ref 117], σ1)) 3 rfl rfl (trivial) ?_
    obtain ⟨r2, σ2, hc, h⟩ := bd_some h
    refine Rc.call (Ev.mono d) (v := some (.int r2)) (as := [.ref 117]) (r := []) 4 rfl rfl rfl rfl ⟨rfl, Nat.le_of_ble_eq_true rfl⟩ (m_here_117_ok (by omega) hc) ?_
    show Rc _ _ _ (12, [(0, .ref 117), (1, .int v1), (2, .int v2)], [.int r2], σ2) _
    refine Rc.blk (c := []) (s2 := (if ¬ r2 = v2 then 20 else 16, [(0, .ref 117), (1, .int v1), (2, .int v2)], [], σ2)) 5 rfl rfl (trivial) ?_
    by_cases c3 : r2 = v2
    · rw [if_pos c3] at h
      refine Rc.ifn (fun q => q c3) ?_
      refine Rc.pick [] (lv2 := []) rfl ?_
      exact m_isSigned_117_b16_ok hd _ _ _ h
    · rw [if_neg c3] at h
      refine Rc.ifp c3 ?_
      refine Rc.blk (c := []) (s2 := (21, [(0, .ref 117), (1, .int v1), (2, .int v2)], [.int 0], σ2)) 7 rfl rfl (trivial) ?_
      refine Rc.pick [] (lv2 := []) rfl ?_
      exact m_isSigned_117_b21_ok hd _ _ _ _ h
theorem m_isDigit_117_ok {d : Nat} (hd : 2 ≤ d) {σ : Sg} {r : Int32} {σ2 : Sg} (h : m_isDigit_117 σ = some (r, σ2)) : Ev MT CT d 195 [.ref 117] σ (fun v s => v = some (.int r) ∧ s = σ2) := by
  obtain ⟨d, rfl⟩ : ∃ e, d = e + 1 := ⟨d - 1, by omega⟩
  refine ⟨Nat.le_of_ble_eq_true rfl, ?_⟩
  show Rc none (Ev MT CT d) sg195 (0, [(0, .ref 117)], [], σ) _
  unfold m_isDigit_117 at h
  have hd : 1 ≤ d := by omega
  refine Rc.blk (c := []) (s2 := (1, [(0, .ref 117)], [.ref 117], σ)) 0 rfl rfl (trivial) ?_
  obtain ⟨r1, σ1, hc, h⟩ := bd_some h
  refine Rc.call (Ev.mono d) (v := some (.int r1)) (as := [.ref 117]) (r := []) 1 rfl rfl rfl rfl ⟨rfl, Nat.le_of_ble_eq_true rfl⟩ (m_here_117_ok (by omega) hc) ?_
  show Rc _ _ _ (4, [(0, .ref 117)], [.int r1], σ1) _
  refine Rc.blk (c := []) (s2 := (11, [(0, .ref 117)], [.long 57, .long 48, .long r1.toInt64], σ1)) 2 rfl rfl (trivial) ?_
  obtain ⟨r2, σ2, hc, h⟩ := bd_some h
  refine Rc.call (Ev.mono d) (v := some (.int r2)) (as := [.long r1.toInt64, .long 48, .long 57]) (r := []) 3 rfl rfl rfl rfl (Nat.le_of_ble_eq_true rfl) (m_isIn_s_ok (by omega) hc) ?_
  show Rc _ _ _ (14, [(0, .ref 117)], [.int r2], σ2) _
  obtain ⟨g, h⟩ := gd_some h
  obtain ⟨rfl, rfl⟩ := some_pair h
  exact Rc.ret 4 rfl rfl rfl (nbB_ok g) ⟨rfl, rfl⟩
theorem m_readsClosed_117_b18_ok (d0 : Nat) (rs : Sg → Option (Int32 × Sg)) (hrs : ∀ (σ : Sg) (r : Int32) (σ2 : Sg), rs σ = some (r, σ2) → Ev MT CT d0 200 [.ref 117] σ (fun v s => v = some (.int r) ∧ s = σ2)) {d : Nat} (hd : 2 ≤ d) (hd0 : d0 + 0 ≤ d) (σ : Sg) (r : Int32) (σ2 : Sg) (h : m_readsClosed_117_b18 rs σ = some (r, σ2)) : Rc none (Ev MT CT d) sg196 (18, [], [], σ) (fun v s => v = some (.int r) ∧ s = σ2) := by
  unfold m_readsClosed_117_b18 at h
  refine Rc.blk (c := []) (s2 := (19, [], [.int 0], σ)) 4 rfl rfl (trivial) ?_
  obtain ⟨rfl, rfl⟩ := some_pair h
  exact Rc.ret 5 rfl rfl rfl (Or.inl rfl) ⟨rfl, rfl⟩
theorem m_readsClosed_117_b56_ok (d0 : Nat) (rs : Sg → Option (Int32 × Sg)) (hrs : ∀ (σ : Sg) (r : Int32) (σ2 : Sg), rs σ = some (r, σ2) → Ev MT CT d0 200 [.ref 117] σ (fun v s => v = some (.int r) ∧ s = σ2)) {d : Nat} (hd : 2 ≤ d) (hd0 : d0 + 0 ≤ d) (σ : Sg) (r : Int32) (σ2 : Sg) (h : m_readsClosed_117_b56 rs σ = some (r, σ2)) : Rc none (Ev MT CT d) sg196 (56, [], [], σ) (fun v s => v = some (.int r) ∧ s = σ2) := by
  unfold m_readsClosed_117_b56 at h
  refine Rc.blk (c := []) (s2 := (57, [], [.int 0], σ)) 12 rfl rfl (trivial) ?_
  obtain ⟨rfl, rfl⟩ := some_pair h
  exact Rc.ret 13 rfl rfl rfl (Or.inl rfl) ⟨rfl, rfl⟩
theorem m_readsClosed_117_ok (d0 : Nat) (rs : Sg → Option (Int32 × Sg)) (hrs : ∀ (σ : Sg) (r : Int32) (σ2 : Sg), rs σ = some (r, σ2) → Ev MT CT d0 200 [.ref 117] σ (fun v s => v = some (.int r) ∧ s = σ2)) {d : Nat} (hd : 3 ≤ d) (hd0 : d0 + 1 ≤ d) {σ : Sg} {r : Int32} {σ2 : Sg} (h : m_readsClosed_117 rs σ = some (r, σ2)) : Ev MT CT d 196 [.ref 117] σ (fun v s => v = some (.int r) ∧ s = σ2) := by
  obtain ⟨d, rfl⟩ : ∃ e, d = e + 1 := ⟨d - 1, by omega⟩
  refine ⟨Nat.le_of_ble_eq_true rfl, ?_⟩
  show Rc none (Ev MT CT d) sg196 (0, [(0, .ref 117)], [], σ) _
  unfold m_readsClosed_117 at h
  have hd : 2 ≤ d := by omega
  have hd0 : d0 + 0 ≤ d := by omega
  refine Rc.blk (c := []) (s2 := (1, [(0, .ref 117)], [.ref 117], σ)) 0 rfl rfl (trivial) ?_
  obtain ⟨r1, σ1, hc, h⟩ := bd_some h
  refine Rc.call (Ev.mono d) (v := some (.int r1)) (as := [.ref 117]) (r := []) 1 rfl rfl rfl rfl ⟨rfl, Nat.le_of_ble_eq_true rfl⟩ (m_here_117_ok (by omega) hc) ?_
  show Rc _ _ _ (4, [(0, .ref 117)], [.int r1], σ1) _
  refine Rc.blk (c := []) (s2 := (if ¬ r1 = 40 then 18 else 9, [(0, .ref 117)], [], σ1)) 2 rfl rfl (trivial) ?_
  by_cases c7 : r1 = 40
  · rw [if_pos c7] at h
    refine Rc.ifn (fun q => q c7) ?_
    refine Rc.blk (c := [_]) (s2 := (if ¬ (σ1.1 117 18) = 6 then 20 else 18, [(0, .ref 117)], [], σ1)) 3 rfl rfl (conj_c (rfl) (trivial)) ?_
    by_cases c6 : (σ1.1 117 18) = 6
    · rw [if_pos c6] at h
      refine Rc.ifn (fun q => q c6) ?_
      refine Rc.pick [] (lv2 := []) rfl ?_
      exact m_readsClosed_117_b18_ok d0 rs hrs hd hd0 _ _ _ h
    · rw [if_neg c6] at h
      refine Rc.ifp c6 ?_
      refine Rc.blk (c := [_, _, _, _, _, _]) (s2 := (41, [(0, .ref 117)], [.ref 117], si (si σ1 117 18 ((σ1.1 117 18) + 1)) 117 17 (((si σ1 117 18 ((σ1.1 117 18) + 1)).1 117 17) + 1))) 6 rfl rfl (conj_c (rfl) (conj_c (rfl) (conj_c (rfl) (conj_c (rfl) (conj_c (rfl) (conj_c (rfl) (trivial))))))) ?_
      obtain ⟨r2, σ2, hc, h⟩ := bd_some h
      refine Rc.call (Ev.mono d) (v := some (.int r2)) (as := [.ref 117]) (r := []) 7 rfl rfl rfl rfl ⟨rfl, Nat.le_of_ble_eq_true rfl⟩ (Ev.le (by omega) (hrs _ _ _ hc)) ?_
      show Rc _ _ _ (44, [(0, .ref 117)], [.int r2], σ2) _
      refine Rc.blk (c := []) (s2 := (if r2 = 0 then 56 else 47, [(0, .ref 117)], [], σ2)) 8 rfl rfl (trivial) ?_
      by_cases c5 : r2 = 0
      · rw [if_pos c5] at h
        refine Rc.ifp c5 ?_
        refine Rc.pick [] (lv2 := []) rfl ?_
        exact m_readsClosed_117_b56_ok d0 rs hrs hd hd0 _ _ _ h
      · rw [if_neg c5] at h
        refine Rc.ifn c5 ?_
        refine Rc.blk (c := []) (s2 := (48, [(0, .ref 117)], [.ref 117], σ2)) 9 rfl rfl (trivial) ?_
        obtain ⟨r3, σ3, hc, h⟩ := bd_some h
        refine Rc.call (Ev.mono d) (v := some (.int r3)) (as := [.ref 117]) (r := []) 10 rfl rfl rfl rfl ⟨rfl, Nat.le_of_ble_eq_true rfl⟩ (m_here_117_ok (by omega) hc) ?_
        show Rc _ _ _ (51, [(0, .ref 117)], [.int r3], σ3) _
        refine Rc.blk (c := []) (s2 := (if r3 = 41 then 58 else 56, [(0, .ref 117)], [], σ3)) 11 rfl rfl (trivial) ?_
        by_cases c4 : r3 = 41
        · rw [if_pos c4] at h
          refine Rc.ifp c4 ?_
          refine Rc.blk (c := [_, _, _, _, _, _]) (s2 := (79, [(0, .ref 117)], [.int 1], si (si σ3 117 18 ((σ3.1 117 18) - 1)) 117 17 (((si σ3 117 18 ((σ3.1 117 18) - 1)).1 117 17) + 1))) 14 rfl rfl (conj_c (rfl) (conj_c (rfl) (conj_c (rfl) (conj_c (rfl) (conj_c (rfl) (conj_c (rfl) (trivial))))))) ?_
          obtain ⟨rfl, rfl⟩ := some_pair h
          exact Rc.ret 15 rfl rfl rfl (Or.inr rfl) ⟨rfl, rfl⟩
        · rw [if_neg c4] at h
          refine Rc.ifn c4 ?_
          refine Rc.pick [] (lv2 := []) rfl ?_
          exact m_readsClosed_117_b56_ok d0 rs hrs hd hd0 _ _ _ h
  · rw [if_neg c7] at h
    refine Rc.ifp c7 ?_
    refine Rc.pick [] (lv2 := []) rfl ?_
    exact m_readsClosed_117_b18_ok d0 rs hrs hd hd0 _ _ _ h
theorem m_readsAtom_117_b107_ok (d0 : Nat) (rs : Sg → Option (Int32 × Sg)) (hrs : ∀ (σ : Sg) (r : Int32) (σ2 : Sg), rs σ = some (r, σ2) → Ev MT CT d0 200 [.ref 117] σ (fun v s => v = some (.int r) ∧ s = σ2)) {d : Nat} (hd : 3 ≤ d) (hd0 : d0 + 1 ≤ d) (σ : Sg) (r : Int32) (σ2 : Sg) (h : m_readsAtom_117_b107 rs σ = some (r, σ2)) : Rc none (Ev MT CT d) sg197 (107, [(0, .ref 117)], [], σ) (fun v s => v = some (.int r) ∧ s = σ2) := by
  unfold m_readsAtom_117_b107 at h
  refine Rc.blk (c := []) (s2 := (108, [(0, .ref 117)], [.ref 117], σ)) 25 rfl rfl (trivial) ?_
  obtain ⟨r1, σ1, hc, h⟩ := bd_some h
  refine Rc.call (Ev.mono d) (v := some (.int r1)) (as := [.ref 117]) (r := []) 26 rfl rfl rfl rfl ⟨rfl, Nat.le_of_ble_eq_true rfl⟩ (m_readsClosed_117_ok d0 rs hrs (by omega) (by omega) hc) ?_
  show Rc _ _ _ (111, [(0, .ref 117)], [.int r1], σ1) _
  obtain ⟨g, h⟩ := gd_some h
  obtain ⟨rfl, rfl⟩ := some_pair h
  exact Rc.ret 27 rfl rfl rfl (nbB_ok g) ⟨rfl, rfl⟩
theorem m_readsAtom_117_b75_ok (d0 : Nat) (rs : Sg → Option (Int32 × Sg)) (hrs : ∀ (σ : Sg) (r : Int32) (σ2 : Sg), rs σ = some (r, σ2) → Ev MT CT d0 200 [.ref 117] σ (fun v s => v = some (.int r) ∧ s = σ2)) {d : Nat} (hd : 3 ≤ d) (hd0 : d0 + 1 ≤ d) (σ : Sg) (r : Int32) (σ2 : Sg) (h : m_readsAtom_117_b75 rs σ = some (r, σ2)) : Rc none (Ev MT CT d) sg197 (75, [], [], σ) (fun v s => v = some (.int r) ∧ s = σ2) := by
  unfold m_readsAtom_117_b75 at h
  refine Rc.blk (c := []) (s2 := (76, [], [.int 1], σ)) 16 rfl rfl (trivial) ?_
  obtain ⟨rfl, rfl⟩ := some_pair h
  exact Rc.ret 17 rfl rfl rfl (Or.inr rfl) ⟨rfl, rfl⟩
theorem m_readsAtom_117_H47_ok (d0 : Nat) (rs : Sg → Option (Int32 × Sg)) (hrs : ∀ (σ : Sg) (r : Int32) (σ2 : Sg), rs σ = some (r, σ2) → Ev MT CT d0 200 [.ref 117] σ (fun v s => v = some (.int r) ∧ s = σ2)) {d : Nat} (hd : 3 ≤ d) (hd0 : d0 + 1 ≤ d) {k47 : Int32 → Sg → Option (Int32 × Sg)} (hk47 : ∀ (v1 : Int32) (σ : Sg) (r : Int32) (σ2 : Sg), k47 v1 σ = some (r, σ2) → Rc none (Ev MT CT d) sg197 (47, [(0, .ref 117), (1, .int v1)], [], σ) (fun v s => v = some (.int r) ∧ s = σ2)) (v1 : Int32) (σ : Sg) (r : Int32) (σ2 : Sg) (h : m_readsAtom_117_H47 rs k47 v1 σ = some (r, σ2)) : Rc none (Ev MT CT d) sg197 (47, [(0, .ref 117), (1, .int v1)], [], σ) (fun v s => v = some (.int r) ∧ s = σ2) := by
  unfold m_readsAtom_117_H47 at h
  refine Rc.blk (c := []) (s2 := (if 3 ≤ v1 then 75 else 52, [(0, .ref 117), (1, .int v1)], [], σ)) 11 rfl rfl (trivial) ?_
  by_cases c3 : 3 ≤ v1
  · rw [if_pos c3] at h
    refine Rc.ifp c3 ?_
    refine Rc.pick [] (lv2 := []) rfl ?_
    exact m_readsAtom_117_b75_ok d0 rs hrs hd hd0 _ _ _ h
  · rw [if_neg c3] at h
    refine Rc.ifn c3 ?_
    refine Rc.blk (c := []) (s2 := (53, [(0, .ref 117), (1, .int v1)], [.ref 117], σ)) 12 rfl rfl (trivial) ?_
    obtain ⟨r1, σ1, hc, h⟩ := bd_some h
    refine Rc.call (Ev.mono d) (v := some (.int r1)) (as := [.ref 117]) (r := []) 13 rfl rfl rfl rfl ⟨rfl, Nat.le_of_ble_eq_true rfl⟩ (m_isDigit_117_ok (by omega) hc) ?_
    show Rc _ _ _ (56, [(0, .ref 117), (1, .int v1)], [.int r1], σ1) _
    refine Rc.blk (c := []) (s2 := (if r1 = 0 then 75 else 59, [(0, .ref 117), (1, .int v1)], [], σ1)) 14 rfl rfl (trivial) ?_
    by_cases c2 : r1 = 0
    · rw [if_pos c2] at h
      refine Rc.ifp c2 ?_
      refine Rc.pick [] (lv2 := []) rfl ?_
      exact m_readsAtom_117_b75_ok d0 rs hrs hd hd0 _ _ _ h
    · rw [if_neg c2] at h
      refine Rc.ifn c2 ?_
      refine Rc.blk (c := [_, _, _]) (s2 := (47, [(1, .int (v1 + 1)), (0, .ref 117)], [], si σ1 117 17 ((σ1.1 117 17) + 1))) 15 rfl rfl (conj_c (rfl) (conj_c (rfl) (conj_c (rfl) (trivial)))) ?_
      refine Rc.pick [1, 0] (lv2 := [(0, .ref 117), (1, .int (v1 + 1))]) rfl ?_
      exact hk47 _ _ _ _ h
theorem m_readsAtom_117_L47_ok (d0 : Nat) (rs : Sg → Option (Int32 × Sg)) (hrs : ∀ (σ : Sg) (r : Int32) (σ2 : Sg), rs σ = some (r, σ2) → Ev MT CT d0 200 [.ref 117] σ (fun v s => v = some (.int r) ∧ s = σ2)) {d : Nat} (hd : 3 ≤ d) (hd0 : d0 + 1 ≤ d) : ∀ (n : Nat) (v1 : Int32) (σ : Sg) (r : Int32) (σ2 : Sg), m_readsAtom_117_L47 rs n v1 σ = some (r, σ2) → Rc none (Ev MT CT d) sg197 (47, [(0, .ref 117), (1, .int v1)], [], σ) (fun v s => v = some (.int r) ∧ s = σ2)
  | 0, _, _, _, _, h => by cases h
  | n + 1, v1, σ, r, σ2, h => m_readsAtom_117_H47_ok d0 rs hrs hd hd0 (m_readsAtom_117_L47_ok d0 rs hrs hd hd0 n) v1 σ r σ2 h
theorem m_readsAtom_117_ok (d0 : Nat) (rs : Sg → Option (Int32 × Sg)) (hrs : ∀ (σ : Sg) (r : Int32) (σ2 : Sg), rs σ = some (r, σ2) → Ev MT CT d0 200 [.ref 117] σ (fun v s => v = some (.int r) ∧ s = σ2)) {d : Nat} (hd : 4 ≤ d) (hd0 : d0 + 2 ≤ d) {σ : Sg} {r : Int32} {σ2 : Sg} (h : m_readsAtom_117 rs σ = some (r, σ2)) : Ev MT CT d 197 [.ref 117] σ (fun v s => v = some (.int r) ∧ s = σ2) := by
  obtain ⟨d, rfl⟩ : ∃ e, d = e + 1 := ⟨d - 1, by omega⟩
  refine ⟨Nat.le_of_ble_eq_true rfl, ?_⟩
  show Rc none (Ev MT CT d) sg197 (0, [(0, .ref 117)], [], σ) _
  unfold m_readsAtom_117 at h
  have hd : 3 ≤ d := by omega
  have hd0 : d0 + 1 ≤ d := by omega
  refine Rc.blk (c := []) (s2 := (1, [(0, .ref 117)], [.ref 117], σ)) 0 rfl rfl (trivial) ?_
  obtain ⟨r1, σ1, hc, h⟩ := bd_some h
  refine Rc.call (Ev.mono d) (v := some (.int r1)) (as := [.ref 117]) (r := []) 1 rfl rfl rfl rfl ⟨rfl, Nat.le_of_ble_eq_true rfl⟩ (m_here_117_ok (by omega) hc) ?_
  show Rc _ _ _ (4, [(0, .ref 117)], [.int r1], σ1) _
  refine Rc.blk (c := [_, _]) (s2 := (20, [(0, .ref 117)], [.long (((65 + (σ1.1 118 0)) - 1).toInt64), .long 65, .long r1.toInt64], σ1)) 2 rfl rfl (conj_c (rfl) (conj_c (⟨rfl, inB_in (by decide)⟩) (trivial))) ?_
  obtain ⟨r2, σ2, hc, h⟩ := bd_some h
  refine Rc.call (Ev.mono d) (v := some (.int r2)) (as := [.long r1.toInt64, .long 65, .long (((65 + (σ1.1 118 0)) - 1).toInt64)]) (r := []) 3 rfl rfl rfl rfl (Nat.le_of_ble_eq_true rfl) (m_isIn_s_ok (by omega) hc) ?_
  show Rc _ _ _ (23, [(0, .ref 117)], [.int r2], σ2) _
  refine Rc.blk (c := []) (s2 := (if r2 = 0 then 38 else 26, [(0, .ref 117)], [], σ2)) 4 rfl rfl (trivial) ?_
  by_cases c8 : r2 = 0
  · rw [if_pos c8] at h
    refine Rc.ifp c8 ?_
    refine Rc.blk (c := []) (s2 := (39, [(0, .ref 117)], [.ref 117], σ2)) 7 rfl rfl (trivial) ?_
    obtain ⟨r3, σ3, hc, h⟩ := bd_some h
    refine Rc.call (Ev.mono d) (v := some (.int r3)) (as := [.ref 117]) (r := []) 8 rfl rfl rfl rfl ⟨rfl, Nat.le_of_ble_eq_true rfl⟩ (m_isDigit_117_ok (by omega) hc) ?_
    show Rc _ _ _ (42, [(0, .ref 117)], [.int r3], σ3) _
    refine Rc.blk (c := []) (s2 := (if r3 = 0 then 77 else 45, [(0, .ref 117)], [], σ3)) 9 rfl rfl (trivial) ?_
    by_cases c7 : r3 = 0
    · rw [if_pos c7] at h
      refine Rc.ifp c7 ?_
      refine Rc.blk (c := []) (s2 := (78, [(0, .ref 117)], [.ref 117], σ3)) 18 rfl rfl (trivial) ?_
      obtain ⟨r4, σ4, hc, h⟩ := bd_some h
      refine Rc.call (Ev.mono d) (v := some (.int r4)) (as := [.ref 117]) (r := []) 19 rfl rfl rfl rfl ⟨rfl, Nat.le_of_ble_eq_true rfl⟩ (m_here_117_ok (by omega) hc) ?_
      show Rc _ _ _ (81, [(0, .ref 117)], [.int r4], σ4) _
      refine Rc.blk (c := []) (s2 := (if ¬ r4 = 115 then 107 else 86, [(0, .ref 117)], [], σ4)) 20 rfl rfl (trivial) ?_
      by_cases c6 : r4 = 115
      · rw [if_pos c6] at h
        refine Rc.ifn (fun q => q c6) ?_
        refine Rc.blk (c := [_]) (s2 := (if ¬ (σ4.1 117 18) = 6 then 97 else 95, [(0, .ref 117)], [], σ4)) 21 rfl rfl (conj_c (rfl) (trivial)) ?_
        by_cases c5 : (σ4.1 117 18) = 6
        · rw [if_pos c5] at h
          refine Rc.ifn (fun q => q c5) ?_
          refine Rc.blk (c := []) (s2 := (96, [(0, .ref 117)], [.int 0], σ4)) 22 rfl rfl (trivial) ?_
          obtain ⟨rfl, rfl⟩ := some_pair h
          exact Rc.ret 23 rfl rfl rfl (Or.inl rfl) ⟨rfl, rfl⟩
        · rw [if_neg c5] at h
          refine Rc.ifp c5 ?_
          refine Rc.blk (c := [_, _, _]) (s2 := (107, [(0, .ref 117)], [], si σ4 117 17 ((σ4.1 117 17) + 1))) 24 rfl rfl (conj_c (rfl) (conj_c (rfl) (conj_c (rfl) (trivial)))) ?_
          exact m_readsAtom_117_b107_ok d0 rs hrs hd hd0 _ _ _ h
      · rw [if_neg c6] at h
        refine Rc.ifp c6 ?_
        exact m_readsAtom_117_b107_ok d0 rs hrs hd hd0 _ _ _ h
    · rw [if_neg c7] at h
      refine Rc.ifn c7 ?_
      refine Rc.blk (c := []) (s2 := (47, [(1, .int 0), (0, .ref 117)], [], σ3)) 10 rfl rfl (trivial) ?_
      refine Rc.pick [1, 0] (lv2 := [(0, .ref 117), (1, .int 0)]) rfl ?_
      exact m_readsAtom_117_L47_ok d0 rs hrs hd hd0 fu _ _ _ _ h
  · rw [if_neg c8] at h
    refine Rc.ifn c8 ?_
    refine Rc.blk (c := [_, _, _]) (s2 := (37, [(0, .ref 117)], [.int 1], si σ2 117 17 ((σ2.1 117 17) + 1))) 5 rfl rfl (conj_c (rfl) (conj_c (rfl) (conj_c (rfl) (trivial)))) ?_
    obtain ⟨rfl, rfl⟩ := some_pair h
    exact Rc.ret 6 rfl rfl rfl (Or.inr rfl) ⟨rfl, rfl⟩
theorem m_readsPart_117_b72_ok (d0 : Nat) (rs : Sg → Option (Int32 × Sg)) (hrs : ∀ (σ : Sg) (r : Int32) (σ2 : Sg), rs σ = some (r, σ2) → Ev MT CT d0 200 [.ref 117] σ (fun v s => v = some (.int r) ∧ s = σ2)) {d : Nat} (hd : 4 ≤ d) (hd0 : d0 + 2 ≤ d) (v1 : Int32) (s1 : Int32) (s2 : Int32) (σ : Sg) (r : Int32) (σ2 : Sg) (h : m_readsPart_117_b72 rs v1 s1 s2 σ = some (r, σ2)) : Rc none (Ev MT CT d) sg198 (72, [(1, .int v1)], [.int s2, .int s1, .ref 117], σ) (fun v s => v = some (.int r) ∧ s = σ2) := by
  unfold m_readsPart_117_b72 at h
  refine Rc.blk (c := [_]) (s2 := (77, [(1, .int v1)], [.int v1], si σ 117 17 (s1 + s2))) 20 rfl rfl (conj_c (rfl) (trivial)) ?_
  obtain ⟨g, h⟩ := gd_some h
  obtain ⟨rfl, rfl⟩ := some_pair h
  exact Rc.ret 21 rfl rfl rfl (nbB_ok g) ⟨rfl, rfl⟩
theorem m_readsPart_117_b49_ok (d0 : Nat) (rs : Sg → Option (Int32 × Sg)) (hrs : ∀ (σ : Sg) (r : Int32) (σ2 : Sg), rs σ = some (r, σ2) → Ev MT CT d0 200 [.ref 117] σ (fun v s => v = some (.int r) ∧ s = σ2)) {d : Nat} (hd : 4 ≤ d) (hd0 : d0 + 2 ≤ d) (s1 : Int32) (s2 : Int32) (σ : Sg) (r : Int32) (σ2 : Sg) (h : m_readsPart_117_b49 rs s1 s2 σ = some (r, σ2)) : Rc none (Ev MT CT d) sg198 (49, [(0, .ref 117)], [.int s2, .int s1, .ref 117], σ) (fun v s => v = some (.int r) ∧ s = σ2) := by
  unfold m_readsPart_117_b49 at h
  refine Rc.blk (c := [_]) (s2 := (54, [(0, .ref 117)], [.ref 117], si σ 117 17 (s1 + s2))) 15 rfl rfl (conj_c (rfl) (trivial)) ?_
  obtain ⟨r1, σ1, hc, h⟩ := bd_some h
  refine Rc.call (Ev.mono d) (v := some (.int r1)) (as := [.ref 117]) (r := []) 16 rfl rfl rfl rfl ⟨rfl, Nat.le_of_ble_eq_true rfl⟩ (m_isDigit_117_ok (by omega) hc) ?_
  show Rc _ _ _ (57, [(0, .ref 117)], [.int r1], σ1) _
  refine Rc.blk (c := [_, _]) (s2 := (if r1 = 0 then 71 else 67, [(1, .int r1), (0, .ref 117)], [.int (σ1.1 117 17), .ref 117], σ1)) 17 rfl rfl (conj_c (rfl) (conj_c (rfl) (trivial))) ?_
  by_cases c2 : r1 = 0
  · rw [if_pos c2] at h
    refine Rc.ifp c2 ?_
    refine Rc.blk (c := []) (s2 := (72, [(1, .int r1), (0, .ref 117)], [.int 0, .int (σ1.1 117 17), .ref 117], σ1)) 19 rfl rfl (trivial) ?_
    refine Rc.pick [0] (lv2 := [(1, .int r1)]) rfl ?_
    exact m_readsPart_117_b72_ok d0 rs hrs hd hd0 _ _ _ _ _ _ h
  · rw [if_neg c2] at h
    refine Rc.ifn c2 ?_
    refine Rc.blk (c := []) (s2 := (72, [(1, .int r1), (0, .ref 117)], [.int 1, .int (σ1.1 117 17), .ref 117], σ1)) 18 rfl rfl (trivial) ?_
    refine Rc.pick [0] (lv2 := [(1, .int r1)]) rfl ?_
    exact m_readsPart_117_b72_ok d0 rs hrs hd hd0 _ _ _ _ _ _ h
theorem m_readsPart_117_ok (d0 : Nat) (rs : Sg → Option (Int32 × Sg)) (hrs : ∀ (σ : Sg) (r : Int32) (σ2 : Sg), rs σ = some (r, σ2) → Ev MT CT d0 200 [.ref 117] σ (fun v s => v = some (.int r) ∧ s = σ2)) {d : Nat} (hd : 5 ≤ d) (hd0 : d0 + 3 ≤ d) {σ : Sg} {r : Int32} {σ2 : Sg} (h : m_readsPart_117 rs σ = some (r, σ2)) : Ev MT CT d 198 [.ref 117] σ (fun v s => v = some (.int r) ∧ s = σ2) := by
  obtain ⟨d, rfl⟩ : ∃ e, d = e + 1 := ⟨d - 1, by omega⟩
  refine ⟨Nat.le_of_ble_eq_true rfl, ?_⟩
  show Rc none (Ev MT CT d) sg198 (0, [(0, .ref 117)], [], σ) _
  unfold m_readsPart_117 at h
  have hd : 4 ≤ d := by omega
  have hd0 : d0 + 2 ≤ d := by omega
  refine Rc.blk (c := []) (s2 := (1, [(0, .ref 117)], [.ref 117], σ)) 0 rfl rfl (trivial) ?_
  obtain ⟨r1, σ1, hc, h⟩ := bd_some h
  refine Rc.call (Ev.mono d) (v := some (.int r1)) (as := [.ref 117]) (r := []) 1 rfl rfl rfl rfl ⟨rfl, Nat.le_of_ble_eq_true rfl⟩ (m_readsAtom_117_ok d0 rs hrs (by omega) (by omega) hc) ?_
  show Rc _ _ _ (4, [(0, .ref 117)], [.int r1], σ1) _
  refine Rc.blk (c := []) (s2 := (if ¬ r1 = 0 then 9 else 7, [(0, .ref 117)], [], σ1)) 2 rfl rfl (trivial) ?_
  by_cases c6 : r1 = 0
  · rw [if_pos c6] at h
    refine Rc.ifn (fun q => q c6) ?_
    refine Rc.blk (c := []) (s2 := (8, [(0, .ref 117)], [.int 0], σ1)) 3 rfl rfl (trivial) ?_
    obtain ⟨rfl, rfl⟩ := some_pair h
    exact Rc.ret 4 rfl rfl rfl (Or.inl rfl) ⟨rfl, rfl⟩
  · rw [if_neg c6] at h
    refine Rc.ifp c6 ?_
    refine Rc.blk (c := []) (s2 := (10, [(0, .ref 117)], [.ref 117], σ1)) 5 rfl rfl (trivial) ?_
    obtain ⟨r2, σ2, hc, h⟩ := bd_some h
    refine Rc.call (Ev.mono d) (v := some (.int r2)) (as := [.ref 117]) (r := []) 6 rfl rfl rfl rfl ⟨rfl, Nat.le_of_ble_eq_true rfl⟩ (m_here_117_ok (by omega) hc) ?_
    show Rc _ _ _ (13, [(0, .ref 117)], [.int r2], σ2) _
    refine Rc.blk (c := []) (s2 := (if r2 = 94 then 20 else 18, [(0, .ref 117)], [], σ2)) 7 rfl rfl (trivial) ?_
    by_cases c5 : r2 = 94
    · rw [if_pos c5] at h
      refine Rc.ifp c5 ?_
      refine Rc.blk (c := [_, _, _, _, _]) (s2 := (36, [(0, .ref 117)], [.ref 117, .int ((si σ2 117 17 ((σ2.1 117 17) + 1)).1 117 17), .ref 117], si σ2 117 17 ((σ2.1 117 17) + 1))) 10 rfl rfl (conj_c (rfl) (conj_c (rfl) (conj_c (rfl) (conj_c (rfl) (conj_c (rfl) (trivial)))))) ?_
      obtain ⟨r3, σ3, hc, h⟩ := bd_some h
      refine Rc.call (Ev.mono d) (v := some (.int r3)) (as := [.ref 117]) (r := [.int ((si σ2 117 17 ((σ2.1 117 17) + 1)).1 117 17), .ref 117]) 11 rfl rfl rfl rfl ⟨rfl, Nat.le_of_ble_eq_true rfl⟩ (m_here_117_ok (by omega) hc) ?_
      show Rc _ _ _ (39, [(0, .ref 117)], [.int r3, .int ((si σ2 117 17 ((σ2.1 117 17) + 1)).1 117 17), .ref 117], σ3) _
      refine Rc.blk (c := []) (s2 := (if ¬ r3 = 45 then 48 else 44, [(0, .ref 117)], [.int ((si σ2 117 17 ((σ2.1 117 17) + 1)).1 117 17), .ref 117], σ3)) 12 rfl rfl (trivial) ?_
      by_cases c4 : r3 = 45
      · rw [if_pos c4] at h
        refine Rc.ifn (fun q => q c4) ?_
        refine Rc.blk (c := []) (s2 := (49, [(0, .ref 117)], [.int 1, .int ((si σ2 117 17 ((σ2.1 117 17) + 1)).1 117 17), .ref 117], σ3)) 13 rfl rfl (trivial) ?_
        exact m_readsPart_117_b49_ok d0 rs hrs hd hd0 _ _ _ _ _ h
      · rw [if_neg c4] at h
        refine Rc.ifp c4 ?_
        refine Rc.blk (c := []) (s2 := (49, [(0, .ref 117)], [.int 0, .int ((si σ2 117 17 ((σ2.1 117 17) + 1)).1 117 17), .ref 117], σ3)) 14 rfl rfl (trivial) ?_
        exact m_readsPart_117_b49_ok d0 rs hrs hd hd0 _ _ _ _ _ h
    · rw [if_neg c5] at h
      refine Rc.ifn c5 ?_
      refine Rc.blk (c := []) (s2 := (19, [(0, .ref 117)], [.int 1], σ2)) 8 rfl rfl (trivial) ?_
      obtain ⟨rfl, rfl⟩ := some_pair h
      exact Rc.ret 9 rfl rfl rfl (Or.inr rfl) ⟨rfl, rfl⟩
theorem m_readsTerm_117_H19_ok (d0 : Nat) (rs : Sg → Option (Int32 × Sg)) (hrs : ∀ (σ : Sg) (r : Int32) (σ2 : Sg), rs σ = some (r, σ2) → Ev MT CT d0 200 [.ref 117] σ (fun v s => v = some (.int r) ∧ s = σ2)) {d : Nat} (hd : 5 ≤ d) (hd0 : d0 + 3 ≤ d) {k19 : Sg → Option (Int32 × Sg)} (hk19 : ∀ (σ : Sg) (r : Int32) (σ2 : Sg), k19 σ = some (r, σ2) → Rc none (Ev MT CT d) sg199 (19, [(0, .ref 117)], [], σ) (fun v s => v = some (.int r) ∧ s = σ2)) (σ : Sg) (r : Int32) (σ2 : Sg) (h : m_readsTerm_117_H19 rs k19 σ = some (r, σ2)) : Rc none (Ev MT CT d) sg199 (19, [(0, .ref 117)], [], σ) (fun v s => v = some (.int r) ∧ s = σ2) := by
  unfold m_readsTerm_117_H19 at h
  refine Rc.blk (c := []) (s2 := (24, [(0, .ref 117)], [.int 47, .int 42, .ref 117], σ)) 5 rfl rfl (trivial) ?_
  obtain ⟨r1, σ1, hc, h⟩ := bd_some h
  refine Rc.call (Ev.mono d) (v := some (.int r1)) (as := [.ref 117, .int 42, .int 47]) (r := []) 6 rfl rfl rfl rfl ⟨rfl, Nat.le_of_ble_eq_true rfl⟩ (m_isSigned_117_ok (by omega) hc) ?_
  show Rc _ _ _ (27, [(0, .ref 117)], [.int r1], σ1) _
  refine Rc.blk (c := []) (s2 := (if r1 = 0 then 49 else 30, [(0, .ref 117)], [], σ1)) 7 rfl rfl (trivial) ?_
  by_cases c4 : r1 = 0
  · rw [if_pos c4] at h
    refine Rc.ifp c4 ?_
    refine Rc.blk (c := []) (s2 := (50, [(0, .ref 117)], [.int 1], σ1)) 13 rfl rfl (trivial) ?_
    obtain ⟨rfl, rfl⟩ := some_pair h
    exact Rc.ret 14 rfl rfl rfl (Or.inr rfl) ⟨rfl, rfl⟩
  · rw [if_neg c4] at h
    refine Rc.ifn c4 ?_
    refine Rc.blk (c := [_, _, _]) (s2 := (41, [(0, .ref 117)], [.ref 117], si σ1 117 17 ((σ1.1 117 17) + 1))) 8 rfl rfl (conj_c (rfl) (conj_c (rfl) (conj_c (rfl) (trivial)))) ?_
    obtain ⟨r2, σ2, hc, h⟩ := bd_some h
    refine Rc.call (Ev.mono d) (v := some (.int r2)) (as := [.ref 117]) (r := []) 9 rfl rfl rfl rfl ⟨rfl, Nat.le_of_ble_eq_true rfl⟩ (m_readsPart_117_ok d0 rs hrs (by omega) (by omega) hc) ?_
    show Rc _ _ _ (44, [(0, .ref 117)], [.int r2], σ2) _
    refine Rc.blk (c := []) (s2 := (if ¬ r2 = 0 then 19 else 47, [(0, .ref 117)], [], σ2)) 10 rfl rfl (trivial) ?_
    by_cases c3 : r2 = 0
    · rw [if_pos c3] at h
      refine Rc.ifn (fun q => q c3) ?_
      refine Rc.blk (c := []) (s2 := (48, [(0, .ref 117)], [.int 0], σ2)) 11 rfl rfl (trivial) ?_
      obtain ⟨rfl, rfl⟩ := some_pair h
      exact Rc.ret 12 rfl rfl rfl (Or.inl rfl) ⟨rfl, rfl⟩
    · rw [if_neg c3] at h
      refine Rc.ifp c3 ?_
      exact hk19 _ _ _ h
theorem m_readsTerm_117_L19_ok (d0 : Nat) (rs : Sg → Option (Int32 × Sg)) (hrs : ∀ (σ : Sg) (r : Int32) (σ2 : Sg), rs σ = some (r, σ2) → Ev MT CT d0 200 [.ref 117] σ (fun v s => v = some (.int r) ∧ s = σ2)) {d : Nat} (hd : 5 ≤ d) (hd0 : d0 + 3 ≤ d) : ∀ (n : Nat) (σ : Sg) (r : Int32) (σ2 : Sg), m_readsTerm_117_L19 rs n σ = some (r, σ2) → Rc none (Ev MT CT d) sg199 (19, [(0, .ref 117)], [], σ) (fun v s => v = some (.int r) ∧ s = σ2)
  | 0, _, _, _, h => by cases h
  | n + 1, σ, r, σ2, h => m_readsTerm_117_H19_ok d0 rs hrs hd hd0 (m_readsTerm_117_L19_ok d0 rs hrs hd hd0 n) σ r σ2 h
theorem m_readsTerm_117_ok (d0 : Nat) (rs : Sg → Option (Int32 × Sg)) (hrs : ∀ (σ : Sg) (r : Int32) (σ2 : Sg), rs σ = some (r, σ2) → Ev MT CT d0 200 [.ref 117] σ (fun v s => v = some (.int r) ∧ s = σ2)) {d : Nat} (hd : 6 ≤ d) (hd0 : d0 + 4 ≤ d) {σ : Sg} {r : Int32} {σ2 : Sg} (h : m_readsTerm_117 rs σ = some (r, σ2)) : Ev MT CT d 199 [.ref 117] σ (fun v s => v = some (.int r) ∧ s = σ2) := by
  obtain ⟨d, rfl⟩ : ∃ e, d = e + 1 := ⟨d - 1, by omega⟩
  refine ⟨Nat.le_of_ble_eq_true rfl, ?_⟩
  show Rc none (Ev MT CT d) sg199 (0, [(0, .ref 117)], [], σ) _
  unfold m_readsTerm_117 at h
  have hd : 5 ≤ d := by omega
  have hd0 : d0 + 3 ≤ d := by omega
  refine Rc.blk (c := [_, _, _]) (s2 := (11, [(0, .ref 117)], [.ref 117], si σ 117 19 ((σ.1 117 19) + 1))) 0 rfl rfl (conj_c (rfl) (conj_c (rfl) (conj_c (rfl) (trivial)))) ?_
  obtain ⟨r1, σ1, hc, h⟩ := bd_some h
  refine Rc.call (Ev.mono d) (v := some (.int r1)) (as := [.ref 117]) (r := []) 1 rfl rfl rfl rfl ⟨rfl, Nat.le_of_ble_eq_true rfl⟩ (m_readsPart_117_ok d0 rs hrs (by omega) (by omega) hc) ?_
  show Rc _ _ _ (14, [(0, .ref 117)], [.int r1], σ1) _
  refine Rc.blk (c := []) (s2 := (if ¬ r1 = 0 then 19 else 17, [(0, .ref 117)], [], σ1)) 2 rfl rfl (trivial) ?_
  by_cases c2 : r1 = 0
  · rw [if_pos c2] at h
    refine Rc.ifn (fun q => q c2) ?_
    refine Rc.blk (c := []) (s2 := (18, [(0, .ref 117)], [.int 0], σ1)) 3 rfl rfl (trivial) ?_
    obtain ⟨rfl, rfl⟩ := some_pair h
    exact Rc.ret 4 rfl rfl rfl (Or.inl rfl) ⟨rfl, rfl⟩
  · rw [if_neg c2] at h
    refine Rc.ifp c2 ?_
    exact m_readsTerm_117_L19_ok d0 rs hrs hd hd0 fu _ _ _ h
theorem m_readsSum_117_H9_ok (d0 : Nat) (rs : Sg → Option (Int32 × Sg)) (hrs : ∀ (σ : Sg) (r : Int32) (σ2 : Sg), rs σ = some (r, σ2) → Ev MT CT d0 200 [.ref 117] σ (fun v s => v = some (.int r) ∧ s = σ2)) {d : Nat} (hd : 6 ≤ d) (hd0 : d0 + 4 ≤ d) {k9 : Sg → Option (Int32 × Sg)} (hk9 : ∀ (σ : Sg) (r : Int32) (σ2 : Sg), k9 σ = some (r, σ2) → Rc none (Ev MT CT d) sg200 (9, [(0, .ref 117)], [], σ) (fun v s => v = some (.int r) ∧ s = σ2)) (σ : Sg) (r : Int32) (σ2 : Sg) (h : m_readsSum_117_H9 rs k9 σ = some (r, σ2)) : Rc none (Ev MT CT d) sg200 (9, [(0, .ref 117)], [], σ) (fun v s => v = some (.int r) ∧ s = σ2) := by
  unfold m_readsSum_117_H9 at h
  refine Rc.blk (c := []) (s2 := (14, [(0, .ref 117)], [.int 45, .int 43, .ref 117], σ)) 5 rfl rfl (trivial) ?_
  obtain ⟨r1, σ1, hc, h⟩ := bd_some h
  refine Rc.call (Ev.mono d) (v := some (.int r1)) (as := [.ref 117, .int 43, .int 45]) (r := []) 6 rfl rfl rfl rfl ⟨rfl, Nat.le_of_ble_eq_true rfl⟩ (m_isSigned_117_ok (by omega) hc) ?_
  show Rc _ _ _ (17, [(0, .ref 117)], [.int r1], σ1) _
  refine Rc.blk (c := []) (s2 := (if r1 = 0 then 39 else 20, [(0, .ref 117)], [], σ1)) 7 rfl rfl (trivial) ?_
  by_cases c4 : r1 = 0
  · rw [if_pos c4] at h
    refine Rc.ifp c4 ?_
    refine Rc.blk (c := []) (s2 := (40, [(0, .ref 117)], [.int 1], σ1)) 13 rfl rfl (trivial) ?_
    obtain ⟨rfl, rfl⟩ := some_pair h
    exact Rc.ret 14 rfl rfl rfl (Or.inr rfl) ⟨rfl, rfl⟩
  · rw [if_neg c4] at h
    refine Rc.ifn c4 ?_
    refine Rc.blk (c := [_, _, _]) (s2 := (31, [(0, .ref 117)], [.ref 117], si σ1 117 17 ((σ1.1 117 17) + 1))) 8 rfl rfl (conj_c (rfl) (conj_c (rfl) (conj_c (rfl) (trivial)))) ?_
    obtain ⟨r2, σ2, hc, h⟩ := bd_some h
    refine Rc.call (Ev.mono d) (v := some (.int r2)) (as := [.ref 117]) (r := []) 9 rfl rfl rfl rfl ⟨rfl, Nat.le_of_ble_eq_true rfl⟩ (m_readsTerm_117_ok d0 rs hrs (by omega) (by omega) hc) ?_
    show Rc _ _ _ (34, [(0, .ref 117)], [.int r2], σ2) _
    refine Rc.blk (c := []) (s2 := (if ¬ r2 = 0 then 9 else 37, [(0, .ref 117)], [], σ2)) 10 rfl rfl (trivial) ?_
    by_cases c3 : r2 = 0
    · rw [if_pos c3] at h
      refine Rc.ifn (fun q => q c3) ?_
      refine Rc.blk (c := []) (s2 := (38, [(0, .ref 117)], [.int 0], σ2)) 11 rfl rfl (trivial) ?_
      obtain ⟨rfl, rfl⟩ := some_pair h
      exact Rc.ret 12 rfl rfl rfl (Or.inl rfl) ⟨rfl, rfl⟩
    · rw [if_neg c3] at h
      refine Rc.ifp c3 ?_
      exact hk9 _ _ _ h
theorem m_readsSum_117_L9_ok (d0 : Nat) (rs : Sg → Option (Int32 × Sg)) (hrs : ∀ (σ : Sg) (r : Int32) (σ2 : Sg), rs σ = some (r, σ2) → Ev MT CT d0 200 [.ref 117] σ (fun v s => v = some (.int r) ∧ s = σ2)) {d : Nat} (hd : 6 ≤ d) (hd0 : d0 + 4 ≤ d) : ∀ (n : Nat) (σ : Sg) (r : Int32) (σ2 : Sg), m_readsSum_117_L9 rs n σ = some (r, σ2) → Rc none (Ev MT CT d) sg200 (9, [(0, .ref 117)], [], σ) (fun v s => v = some (.int r) ∧ s = σ2)
  | 0, _, _, _, h => by cases h
  | n + 1, σ, r, σ2, h => m_readsSum_117_H9_ok d0 rs hrs hd hd0 (m_readsSum_117_L9_ok d0 rs hrs hd hd0 n) σ r σ2 h
theorem m_readsSum_117_H_ok (d0 : Nat) (rs : Sg → Option (Int32 × Sg)) (hrs : ∀ (σ : Sg) (r : Int32) (σ2 : Sg), rs σ = some (r, σ2) → Ev MT CT d0 200 [.ref 117] σ (fun v s => v = some (.int r) ∧ s = σ2)) {d : Nat} (hd : 7 ≤ d) (hd0 : d0 + 5 ≤ d) {σ : Sg} {r : Int32} {σ2 : Sg} (h : m_readsSum_117_H rs σ = some (r, σ2)) : Ev MT CT d 200 [.ref 117] σ (fun v s => v = some (.int r) ∧ s = σ2) := by
  obtain ⟨d, rfl⟩ : ∃ e, d = e + 1 := ⟨d - 1, by omega⟩
  refine ⟨Nat.le_of_ble_eq_true rfl, ?_⟩
  show Rc none (Ev MT CT d) sg200 (0, [(0, .ref 117)], [], σ) _
  unfold m_readsSum_117_H at h
  have hd : 6 ≤ d := by omega
  have hd0 : d0 + 4 ≤ d := by omega
  refine Rc.blk (c := []) (s2 := (1, [(0, .ref 117)], [.ref 117], σ)) 0 rfl rfl (trivial) ?_
  obtain ⟨r1, σ1, hc, h⟩ := bd_some h
  refine Rc.call (Ev.mono d) (v := some (.int r1)) (as := [.ref 117]) (r := []) 1 rfl rfl rfl rfl ⟨rfl, Nat.le_of_ble_eq_true rfl⟩ (m_readsTerm_117_ok d0 rs hrs (by omega) (by omega) hc) ?_
  show Rc _ _ _ (4, [(0, .ref 117)], [.int r1], σ1) _
  refine Rc.blk (c := []) (s2 := (if ¬ r1 = 0 then 9 else 7, [(0, .ref 117)], [], σ1)) 2 rfl rfl (trivial) ?_
  by_cases c2 : r1 = 0
  · rw [if_pos c2] at h
    refine Rc.ifn (fun q => q c2) ?_
    refine Rc.blk (c := []) (s2 := (8, [(0, .ref 117)], [.int 0], σ1)) 3 rfl rfl (trivial) ?_
    obtain ⟨rfl, rfl⟩ := some_pair h
    exact Rc.ret 4 rfl rfl rfl (Or.inl rfl) ⟨rfl, rfl⟩
  · rw [if_neg c2] at h
    refine Rc.ifp c2 ?_
    exact m_readsSum_117_L9_ok d0 rs hrs hd hd0 fu _ _ _ h
theorem m_readsSum_117_lv : ∀ (n : Nat) (σ : Sg) (r : Int32) (σ2 : Sg), m_readsSum_117 n σ = some (r, σ2) → Ev MT CT (7 + 5 * n) 200 [.ref 117] σ (fun v s => v = some (.int r) ∧ s = σ2)
  | 0, _, _, _, h => by cases h
  | n + 1, σ, r, σ2, h => m_readsSum_117_H_ok (7 + 5 * n) (m_readsSum_117 n) (m_readsSum_117_lv n) (by omega) (by omega) h
theorem m_readsSum_117_top {d : Nat} (hd : 67 ≤ d) {σ : Sg} {r : Int32} {σ2 : Sg} (h : m_readsSum_117 12 σ = some (r, σ2)) : Ev MT CT d 200 [.ref 117] σ (fun v s => v = some (.int r) ∧ s = σ2) := Ev.le (by omega) (m_readsSum_117_lv 12 σ r σ2 h)
theorem m_readsBoth_117_b16_ok {d : Nat} (hd : 67 ≤ d) (σ : Sg) (r : Int32) (σ2 : Sg) (h : m_readsBoth_117_b16 σ = some (r, σ2)) : Rc none (Ev MT CT d) sg201 (16, [], [], σ) (fun v s => v = some (.int r) ∧ s = σ2) := by
  unfold m_readsBoth_117_b16 at h
  refine Rc.blk (c := []) (s2 := (17, [], [.int 0], σ)) 6 rfl rfl (trivial) ?_
  obtain ⟨rfl, rfl⟩ := some_pair h
  exact Rc.ret 7 rfl rfl rfl (Or.inl rfl) ⟨rfl, rfl⟩
theorem m_readsBoth_117_b51_ok {d : Nat} (hd : 67 ≤ d) (s0 : Int32) (σ : Sg) (r : Int32) (σ2 : Sg) (h : m_readsBoth_117_b51 s0 σ = some (r, σ2)) : Rc none (Ev MT CT d) sg201 (51, [], [.int s0], σ) (fun v s => v = some (.int r) ∧ s = σ2) := by
  unfold m_readsBoth_117_b51 at h
  obtain ⟨g, h⟩ := gd_some h
  obtain ⟨rfl, rfl⟩ := some_pair h
  exact Rc.ret 14 rfl rfl rfl (nbB_ok g) ⟨rfl, rfl⟩
theorem m_readsBoth_117_b50_ok {d : Nat} (hd : 67 ≤ d) (σ : Sg) (r : Int32) (σ2 : Sg) (h : m_readsBoth_117_b50 σ = some (r, σ2)) : Rc none (Ev MT CT d) sg201 (50, [], [], σ) (fun v s => v = some (.int r) ∧ s = σ2) := by
  unfold m_readsBoth_117_b50 at h
  refine Rc.blk (c := []) (s2 := (51, [], [.int 0], σ)) 13 rfl rfl (trivial) ?_
  exact m_readsBoth_117_b51_ok hd _ _ _ _ h
theorem m_readsBoth_117_ok {d : Nat} (hd : 68 ≤ d) {σ : Sg} {r : Int32} {σ2 : Sg} (h : m_readsBoth_117 σ = some (r, σ2)) : Ev MT CT d 201 [.ref 117] σ (fun v s => v = some (.int r) ∧ s = σ2) := by
  obtain ⟨d, rfl⟩ : ∃ e, d = e + 1 := ⟨d - 1, by omega⟩
  refine ⟨Nat.le_of_ble_eq_true rfl, ?_⟩
  show Rc none (Ev MT CT d) sg201 (0, [(0, .ref 117)], [], σ) _
  unfold m_readsBoth_117 at h
  have hd : 67 ≤ d := by omega
  refine Rc.blk (c := []) (s2 := (1, [(0, .ref 117)], [.ref 117], σ)) 0 rfl rfl (trivial) ?_
  obtain ⟨r1, σ1, hc, h⟩ := bd_some h
  refine Rc.call (Ev.mono d) (v := some (.int r1)) (as := [.ref 117]) (r := []) 1 rfl rfl rfl rfl ⟨rfl, Nat.le_of_ble_eq_true rfl⟩ (m_readsSum_117_top (by omega) hc) ?_
  show Rc _ _ _ (4, [(0, .ref 117)], [.int r1], σ1) _
  refine Rc.blk (c := []) (s2 := (if r1 = 0 then 16 else 7, [(0, .ref 117)], [], σ1)) 2 rfl rfl (trivial) ?_
  by_cases c7 : r1 = 0
  · rw [if_pos c7] at h
    refine Rc.ifp c7 ?_
    refine Rc.pick [] (lv2 := []) rfl ?_
    exact m_readsBoth_117_b16_ok hd _ _ _ h
  · rw [if_neg c7] at h
    refine Rc.ifn c7 ?_
    refine Rc.blk (c := []) (s2 := (8, [(0, .ref 117)], [.ref 117], σ1)) 3 rfl rfl (trivial) ?_
    obtain ⟨r2, σ2, hc, h⟩ := bd_some h
    refine Rc.call (Ev.mono d) (v := some (.int r2)) (as := [.ref 117]) (r := []) 4 rfl rfl rfl rfl ⟨rfl, Nat.le_of_ble_eq_true rfl⟩ (m_here_117_ok (by omega) hc) ?_
    show Rc _ _ _ (11, [(0, .ref 117)], [.int r2], σ2) _
    refine Rc.blk (c := []) (s2 := (if r2 = 61 then 18 else 16, [(0, .ref 117)], [], σ2)) 5 rfl rfl (trivial) ?_
    by_cases c6 : r2 = 61
    · rw [if_pos c6] at h
      refine Rc.ifp c6 ?_
      refine Rc.blk (c := [_, _, _]) (s2 := (29, [(0, .ref 117)], [.ref 117], si σ2 117 17 ((σ2.1 117 17) + 1))) 8 rfl rfl (conj_c (rfl) (conj_c (rfl) (conj_c (rfl) (trivial)))) ?_
      obtain ⟨r3, σ3, hc, h⟩ := bd_some h
      refine Rc.call (Ev.mono d) (v := some (.int r3)) (as := [.ref 117]) (r := []) 9 rfl rfl rfl rfl ⟨rfl, Nat.le_of_ble_eq_true rfl⟩ (m_readsSum_117_top (by omega) hc) ?_
      show Rc _ _ _ (32, [(0, .ref 117)], [.int r3], σ3) _
      refine Rc.blk (c := []) (s2 := (if r3 = 0 then 50 else 35, [(0, .ref 117)], [], σ3)) 10 rfl rfl (trivial) ?_
      by_cases c5 : r3 = 0
      · rw [if_pos c5] at h
        refine Rc.ifp c5 ?_
        refine Rc.pick [] (lv2 := []) rfl ?_
        exact m_readsBoth_117_b50_ok hd _ _ _ h
      · rw [if_neg c5] at h
        refine Rc.ifn c5 ?_
        refine Rc.blk (c := [_, _]) (s2 := (if ¬ (σ3.1 117 17) = (σ3.1 117 5) then 50 else 46, [(0, .ref 117)], [], σ3)) 11 rfl rfl (conj_c (rfl) (conj_c (rfl) (trivial))) ?_
        by_cases c4 : (σ3.1 117 17) = (σ3.1 117 5)
        · rw [if_pos c4] at h
          refine Rc.ifn (fun q => q c4) ?_
          refine Rc.blk (c := []) (s2 := (51, [(0, .ref 117)], [.int 1], σ3)) 12 rfl rfl (trivial) ?_
          refine Rc.pick [] (lv2 := []) rfl ?_
          exact m_readsBoth_117_b51_ok hd _ _ _ _ h
        · rw [if_neg c4] at h
          refine Rc.ifp c4 ?_
          refine Rc.pick [] (lv2 := []) rfl ?_
          exact m_readsBoth_117_b50_ok hd _ _ _ h
    · rw [if_neg c6] at h
      refine Rc.ifn c6 ?_
      refine Rc.pick [] (lv2 := []) rfl ?_
      exact m_readsBoth_117_b16_ok hd _ _ _ h
theorem m_formula_117_b101_ok {d : Nat} (hd : 68 ≤ d) (s0 : Int32) (σ : Sg) (r : Int32) (σ2 : Sg) (h : m_formula_117_b101 s0 σ = some (r, σ2)) : Rc none (Ev MT CT d) sg202 (101, [], [.int s0], σ) (fun v s => v = some (.int r) ∧ s = σ2) := by
  unfold m_formula_117_b101 at h
  obtain ⟨rfl, rfl⟩ := some_pair h
  exact Rc.ret 9 rfl rfl rfl trivial ⟨rfl, rfl⟩
theorem m_formula_117_b77_ok {d : Nat} (hd : 68 ≤ d) (v1 : Int32) (σ : Sg) (r : Int32) (σ2 : Sg) (h : m_formula_117_b77 v1 σ = some (r, σ2)) : Rc none (Ev MT CT d) sg202 (77, [(0, .ref 117), (1, .int v1)], [], σ) (fun v s => v = some (.int r) ∧ s = σ2) := by
  unfold m_formula_117_b77 at h
  refine Rc.blk (c := [_]) (s2 := (if v1 = 0 then 93 else 86, [(0, .ref 117), (1, .int v1)], [], si σ 117 5 0)) 6 rfl rfl (conj_c (rfl) (trivial)) ?_
  by_cases c1 : v1 = 0
  · rw [if_pos c1] at h
    refine Rc.ifp c1 ?_
    refine Rc.blk (c := [_]) (s2 := (101, [(0, .ref 117), (1, .int v1)], [.int ((-1000) - ((si σ 117 5 0).1 117 17))], si σ 117 5 0)) 8 rfl rfl (conj_c (rfl) (trivial)) ?_
    refine Rc.pick [] (lv2 := []) rfl ?_
    exact m_formula_117_b101_ok hd _ _ _ _ h
  · rw [if_neg c1] at h
    refine Rc.ifn c1 ?_
    refine Rc.blk (c := [_]) (s2 := (101, [(0, .ref 117), (1, .int v1)], [.int ((si σ 117 5 0).1 117 19)], si σ 117 5 0)) 7 rfl rfl (conj_c (rfl) (trivial)) ?_
    refine Rc.pick [] (lv2 := []) rfl ?_
    exact m_formula_117_b101_ok hd _ _ _ _ h
theorem m_formula_117_H48_ok {d : Nat} (hd : 68 ≤ d) {k48 : Int32 → Int32 → Sg → Option (Int32 × Sg)} (hk48 : ∀ (v1 : Int32) (v2 : Int32) (σ : Sg) (r : Int32) (σ2 : Sg), k48 v1 v2 σ = some (r, σ2) → Rc none (Ev MT CT d) sg202 (48, [(0, .ref 117), (1, .int v1), (2, .int v2)], [], σ) (fun v s => v = some (.int r) ∧ s = σ2)) (v1 : Int32) (v2 : Int32) (σ : Sg) (r : Int32) (σ2 : Sg) (h : m_formula_117_H48 k48 v1 v2 σ = some (r, σ2)) : Rc none (Ev MT CT d) sg202 (48, [(0, .ref 117), (1, .int v1), (2, .int v2)], [], σ) (fun v s => v = some (.int r) ∧ s = σ2) := by
  unfold m_formula_117_H48 at h
  refine Rc.blk (c := [_]) (s2 := (if (σ.1 117 5) ≤ v2 then 77 else 56, [(0, .ref 117), (1, .int v1), (2, .int v2)], [], σ)) 4 rfl rfl (conj_c (rfl) (trivial)) ?_
  by_cases c3 : (σ.1 117 5) ≤ v2
  · rw [if_pos c3] at h
    refine Rc.ifp c3 ?_
    refine Rc.pick [0, 1] (lv2 := [(0, .ref 117), (1, .int v1)]) rfl ?_
    exact m_formula_117_b77_ok hd _ _ _ _ h
  · rw [if_neg c3] at h
    refine Rc.ifn c3 ?_
    obtain ⟨g1, h⟩ := gd_some h
    obtain ⟨g2, h⟩ := gd_some h
    refine Rc.blk (c := [_, _, _, _]) (s2 := (48, [(2, .int (v2 + 1)), (0, .ref 117), (1, .int v1)], [], si σ 118 (67 + v2).toNatClampNeg (σ.1 121 v2.toNatClampNeg))) 5 rfl rfl (conj_c (rfl) (conj_c (rfl) (conj_c (⟨rfl, inB_in g1⟩) (conj_c (⟨rfl, inB_in g2⟩) (trivial))))) ?_
    refine Rc.pick [1, 2, 0] (lv2 := [(0, .ref 117), (1, .int v1), (2, .int (v2 + 1))]) rfl ?_
    exact hk48 _ _ _ _ _ h
theorem m_formula_117_L48_ok {d : Nat} (hd : 68 ≤ d) : ∀ (n : Nat) (v1 : Int32) (v2 : Int32) (σ : Sg) (r : Int32) (σ2 : Sg), m_formula_117_L48 n v1 v2 σ = some (r, σ2) → Rc none (Ev MT CT d) sg202 (48, [(0, .ref 117), (1, .int v1), (2, .int v2)], [], σ) (fun v s => v = some (.int r) ∧ s = σ2)
  | 0, _, _, _, _, _, h => by cases h
  | n + 1, v1, v2, σ, r, σ2, h => m_formula_117_H48_ok hd (m_formula_117_L48_ok hd n) v1 v2 σ r σ2 h
theorem m_formula_117_ok {d : Nat} (hd : 69 ≤ d) {σ : Sg} {r : Int32} {σ2 : Sg} (h : m_formula_117 σ = some (r, σ2)) : Ev MT CT d 202 [.ref 117] σ (fun v s => v = some (.int r) ∧ s = σ2) := by
  obtain ⟨d, rfl⟩ : ∃ e, d = e + 1 := ⟨d - 1, by omega⟩
  refine ⟨Nat.le_of_ble_eq_true rfl, ?_⟩
  show Rc none (Ev MT CT d) sg202 (0, [(0, .ref 117)], [], σ) _
  unfold m_formula_117 at h
  have hd : 68 ≤ d := by omega
  refine Rc.blk (c := [_, _, _]) (s2 := (16, [(0, .ref 117)], [.ref 117], si (si (si σ 117 17 0) 117 18 0) 117 19 0)) 0 rfl rfl (conj_c (rfl) (conj_c (rfl) (conj_c (rfl) (trivial)))) ?_
  obtain ⟨r1, σ1, hc, h⟩ := bd_some h
  refine Rc.call (Ev.mono d) (v := some (.int r1)) (as := [.ref 117]) (r := []) 1 rfl rfl rfl rfl ⟨rfl, Nat.le_of_ble_eq_true rfl⟩ (m_readsBoth_117_ok (by omega) hc) ?_
  show Rc _ _ _ (19, [(0, .ref 117)], [.int r1], σ1) _
  refine Rc.blk (c := []) (s2 := (if r1 = 0 then 77 else 24, [(1, .int r1), (0, .ref 117)], [], σ1)) 2 rfl rfl (trivial) ?_
  by_cases c2 : r1 = 0
  · rw [if_pos c2] at h
    refine Rc.ifp c2 ?_
    refine Rc.pick [1, 0] (lv2 := [(0, .ref 117), (1, .int r1)]) rfl ?_
    exact m_formula_117_b77_ok hd _ _ _ _ h
  · rw [if_neg c2] at h
    refine Rc.ifn c2 ?_
    refine Rc.blk (c := [_, _, _, _, _, _]) (s2 := (48, [(2, .int 0), (1, .int r1), (0, .ref 117)], [], si (si σ1 118 65 (σ1.1 117 19)) 118 66 ((si σ1 118 65 (σ1.1 117 19)).1 117 5))) 3 rfl rfl (conj_c (rfl) (conj_c (rfl) (conj_c (⟨rfl, inB_in (by decide)⟩) (conj_c (rfl) (conj_c (rfl) (conj_c (⟨rfl, inB_in (by decide)⟩) (trivial))))))) ?_
    refine Rc.pick [2, 1, 0] (lv2 := [(0, .ref 117), (1, .int r1), (2, .int 0)]) rfl ?_
    exact m_formula_117_L48_ok hd fu _ _ _ _ _ h
theorem m_sign_117_b30_ok {d : Nat} (hd : 0 ≤ d) (s0 : Int32) (σ : Sg) (r : Int32) (σ2 : Sg) (h : m_sign_117_b30 s0 σ = some (r, σ2)) : Rc none (Ev MT CT d) sg203 (30, [], [.int s0], σ) (fun v s => v = some (.int r) ∧ s = σ2) := by
  unfold m_sign_117_b30 at h
  obtain ⟨rfl, rfl⟩ := some_pair h
  exact Rc.ret 3 rfl rfl rfl trivial ⟨rfl, rfl⟩
theorem m_sign_117_ok {d : Nat} (hd : 1 ≤ d) {σ : Sg} {r : Int32} {σ2 : Sg} (h : m_sign_117 σ = some (r, σ2)) : Ev MT CT d 203 [.ref 117] σ (fun v s => v = some (.int r) ∧ s = σ2) := by
  obtain ⟨d, rfl⟩ : ∃ e, d = e + 1 := ⟨d - 1, by omega⟩
  refine ⟨Nat.le_of_ble_eq_true rfl, ?_⟩
  show Rc none (Ev MT CT d) sg203 (0, [(0, .ref 117)], [], σ) _
  unfold m_sign_117 at h
  have hd : 0 ≤ d := by omega
  refine Rc.blk (c := [_, _, _]) (s2 := (if (σ.1 118 66) ≤ (σ.1 117 23) then 29 else 14, [(0, .ref 117)], [], σ)) 0 rfl rfl (conj_c (rfl) (conj_c (rfl) (conj_c (⟨rfl, inB_in (by decide)⟩) (trivial)))) ?_
  by_cases c2 : (σ.1 118 66) ≤ (σ.1 117 23)
  · rw [if_pos c2] at h
    refine Rc.ifp c2 ?_
    refine Rc.blk (c := []) (s2 := (30, [(0, .ref 117)], [.int (-1)], σ)) 2 rfl rfl (trivial) ?_
    refine Rc.pick [] (lv2 := []) rfl ?_
    exact m_sign_117_b30_ok hd _ _ _ _ h
  · rw [if_neg c2] at h
    refine Rc.ifn c2 ?_
    obtain ⟨g1, h⟩ := gd_some h
    refine Rc.blk (c := [_, _, _]) (s2 := (30, [(0, .ref 117)], [.int (σ.1 118 (67 + (σ.1 117 23)).toNatClampNeg)], σ)) 1 rfl rfl (conj_c (rfl) (conj_c (rfl) (conj_c (⟨rfl, inB_in g1⟩) (trivial)))) ?_
    refine Rc.pick [] (lv2 := []) rfl ?_
    exact m_sign_117_b30_ok hd _ _ _ _ h
theorem m_isPureAt_117_b28_ok {d : Nat} (hd : 0 ≤ d) {k4 : Int32 → Int32 → Int32 → Sg → Option (Int32 × Sg)} (hk4 : ∀ (v1 : Int32) (v2 : Int32) (v3 : Int32) (σ : Sg) (r : Int32) (σ2 : Sg), k4 v1 v2 v3 σ = some (r, σ2) → Rc none (Ev MT CT d) sg205 (4, [(0, .ref 117), (1, .int v1), (2, .int v2), (3, .int v3)], [], σ) (fun v s => v = some (.int r) ∧ s = σ2)) (v1 : Int32) (v3 : Int32) (s0 : Int32) (s1 : Int32) (σ : Sg) (r : Int32) (σ2 : Sg) (h : m_isPureAt_117_b28 k4 v1 v3 s0 s1 σ = some (r, σ2)) : Rc none (Ev MT CT d) sg205 (28, [(0, .ref 117), (1, .int v1), (3, .int v3)], [.int s1, .int s0], σ) (fun v s => v = some (.int r) ∧ s = σ2) := by
  unfold m_isPureAt_117_b28 at h
  refine Rc.blk (c := []) (s2 := (4, [(3, .int (v3 + 1)), (2, .int (s0 &&& s1)), (0, .ref 117), (1, .int v1)], [], σ)) 5 rfl rfl (trivial) ?_
  refine Rc.pick [2, 3, 1, 0] (lv2 := [(0, .ref 117), (1, .int v1), (2, .int (s0 &&& s1)), (3, .int (v3 + 1))]) rfl ?_
  exact hk4 _ _ _ _ _ _ h
theorem m_isPureAt_117_H4_ok {d : Nat} (hd : 0 ≤ d) {k4 : Int32 → Int32 → Int32 → Sg → Option (Int32 × Sg)} (hk4 : ∀ (v1 : Int32) (v2 : Int32) (v3 : Int32) (σ : Sg) (r : Int32) (σ2 : Sg), k4 v1 v2 v3 σ = some (r, σ2) → Rc none (Ev MT CT d) sg205 (4, [(0, .ref 117), (1, .int v1), (2, .int v2), (3, .int v3)], [], σ) (fun v s => v = some (.int r) ∧ s = σ2)) (v1 : Int32) (v2 : Int32) (v3 : Int32) (σ : Sg) (r : Int32) (σ2 : Sg) (h : m_isPureAt_117_H4 k4 v1 v2 v3 σ = some (r, σ2)) : Rc none (Ev MT CT d) sg205 (4, [(0, .ref 117), (1, .int v1), (2, .int v2), (3, .int v3)], [], σ) (fun v s => v = some (.int r) ∧ s = σ2) := by
  unfold m_isPureAt_117_H4 at h
  refine Rc.blk (c := []) (s2 := (if 5 ≤ v3 then 36 else 9, [(0, .ref 117), (1, .int v1), (2, .int v2), (3, .int v3)], [], σ)) 1 rfl rfl (trivial) ?_
  by_cases c3 : 5 ≤ v3
  · rw [if_pos c3] at h
    refine Rc.ifp c3 ?_
    refine Rc.blk (c := []) (s2 := (37, [(0, .ref 117), (1, .int v1), (2, .int v2), (3, .int v3)], [.int v2], σ)) 6 rfl rfl (trivial) ?_
    obtain ⟨g, h⟩ := gd_some h
    obtain ⟨rfl, rfl⟩ := some_pair h
    exact Rc.ret 7 rfl rfl rfl (nbB_ok g) ⟨rfl, rfl⟩
  · rw [if_neg c3] at h
    refine Rc.ifn c3 ?_
    obtain ⟨g1, h⟩ := gd_some h
    refine Rc.blk (c := [_, _]) (s2 := (if ¬ (σ.1 132 ((5 * v1) + v3).toNatClampNeg) = 0 then 27 else 23, [(0, .ref 117), (1, .int v1), (2, .int v2), (3, .int v3)], [.int v2], σ)) 2 rfl rfl (conj_c (rfl) (conj_c (⟨rfl, inB_in g1⟩) (trivial))) ?_
    by_cases c2 : (σ.1 132 ((5 * v1) + v3).toNatClampNeg) = 0
    · rw [if_pos c2] at h
      refine Rc.ifn (fun q => q c2) ?_
      refine Rc.blk (c := []) (s2 := (28, [(0, .ref 117), (1, .int v1), (2, .int v2), (3, .int v3)], [.int 1, .int v2], σ)) 3 rfl rfl (trivial) ?_
      refine Rc.pick [0, 1, 3] (lv2 := [(0, .ref 117), (1, .int v1), (3, .int v3)]) rfl ?_
      exact m_isPureAt_117_b28_ok hd hk4 _ _ _ _ _ _ _ h
    · rw [if_neg c2] at h
      refine Rc.ifp c2 ?_
      refine Rc.blk (c := []) (s2 := (28, [(0, .ref 117), (1, .int v1), (2, .int v2), (3, .int v3)], [.int 0, .int v2], σ)) 4 rfl rfl (trivial) ?_
      refine Rc.pick [0, 1, 3] (lv2 := [(0, .ref 117), (1, .int v1), (3, .int v3)]) rfl ?_
      exact m_isPureAt_117_b28_ok hd hk4 _ _ _ _ _ _ _ h
theorem m_isPureAt_117_L4_ok {d : Nat} (hd : 0 ≤ d) : ∀ (n : Nat) (v1 : Int32) (v2 : Int32) (v3 : Int32) (σ : Sg) (r : Int32) (σ2 : Sg), m_isPureAt_117_L4 n v1 v2 v3 σ = some (r, σ2) → Rc none (Ev MT CT d) sg205 (4, [(0, .ref 117), (1, .int v1), (2, .int v2), (3, .int v3)], [], σ) (fun v s => v = some (.int r) ∧ s = σ2)
  | 0, _, _, _, _, _, _, h => by cases h
  | n + 1, v1, v2, v3, σ, r, σ2, h => m_isPureAt_117_H4_ok hd (m_isPureAt_117_L4_ok hd n) v1 v2 v3 σ r σ2 h
theorem m_isPureAt_117_ok {d : Nat} (hd : 1 ≤ d) {v1 : Int32} {σ : Sg} {r : Int32} {σ2 : Sg} (h : m_isPureAt_117 v1 σ = some (r, σ2)) : Ev MT CT d 205 [.ref 117, .int v1] σ (fun v s => v = some (.int r) ∧ s = σ2) := by
  obtain ⟨d, rfl⟩ : ∃ e, d = e + 1 := ⟨d - 1, by omega⟩
  refine ⟨Nat.le_of_ble_eq_true rfl, ?_⟩
  show Rc none (Ev MT CT d) sg205 (0, [(0, .ref 117), (1, .int v1)], [], σ) _
  unfold m_isPureAt_117 at h
  have hd : 0 ≤ d := by omega
  refine Rc.blk (c := []) (s2 := (4, [(3, .int 0), (2, .int 1), (0, .ref 117), (1, .int v1)], [], σ)) 0 rfl rfl (trivial) ?_
  refine Rc.pick [2, 3, 1, 0] (lv2 := [(0, .ref 117), (1, .int v1), (2, .int 1), (3, .int 0)]) rfl ?_
  exact m_isPureAt_117_L4_ok hd fu _ _ _ _ _ _ h
theorem m_sets2_117_H2_ok {d : Nat} (hd : 0 ≤ d) {k2 : Int32 → Int32 → Int32 → Sg → Option (Unit × Sg)} (hk2 : ∀ (v1 : Int32) (v2 : Int32) (v3 : Int32) (σ : Sg) (r : Unit) (σ2 : Sg), k2 v1 v2 v3 σ = some (r, σ2) → Rc none (Ev MT CT d) sg204 (2, [(0, .ref 117), (1, .int v1), (2, .int v2), (3, .int v3)], [], σ) (fun v s => v = none ∧ s = σ2)) (v1 : Int32) (v2 : Int32) (v3 : Int32) (σ : Sg) (r : Unit) (σ2 : Sg) (h : m_sets2_117_H2 k2 v1 v2 v3 σ = some (r, σ2)) : Rc none (Ev MT CT d) sg204 (2, [(0, .ref 117), (1, .int v1), (2, .int v2), (3, .int v3)], [], σ) (fun v s => v = none ∧ s = σ2) := by
  unfold m_sets2_117_H2 at h
  refine Rc.blk (c := []) (s2 := (if 5 ≤ v3 then 24 else 7, [(0, .ref 117), (1, .int v1), (2, .int v2), (3, .int v3)], [], σ)) 1 rfl rfl (trivial) ?_
  by_cases c2 : 5 ≤ v3
  · rw [if_pos c2] at h
    refine Rc.ifp c2 ?_
    obtain ⟨rfl, rfl⟩ := some_pair h
    exact Rc.ret 3 rfl rfl rfl trivial ⟨rfl, rfl⟩
  · rw [if_neg c2] at h
    refine Rc.ifn c2 ?_
    obtain ⟨g1, h⟩ := gd_some h
    refine Rc.blk (c := [_, _]) (s2 := (2, [(3, .int (v3 + 1)), (0, .ref 117), (1, .int v1), (2, .int v2)], [], si σ 132 ((5 * v1) + v3).toNatClampNeg v2)) 2 rfl rfl (conj_c (rfl) (conj_c (⟨rfl, inB_in g1⟩) (trivial))) ?_
    refine Rc.pick [1, 2, 3, 0] (lv2 := [(0, .ref 117), (1, .int v1), (2, .int v2), (3, .int (v3 + 1))]) rfl ?_
    exact hk2 _ _ _ _ _ _ h
theorem m_sets2_117_L2_ok {d : Nat} (hd : 0 ≤ d) : ∀ (n : Nat) (v1 : Int32) (v2 : Int32) (v3 : Int32) (σ : Sg) (r : Unit) (σ2 : Sg), m_sets2_117_L2 n v1 v2 v3 σ = some (r, σ2) → Rc none (Ev MT CT d) sg204 (2, [(0, .ref 117), (1, .int v1), (2, .int v2), (3, .int v3)], [], σ) (fun v s => v = none ∧ s = σ2)
  | 0, _, _, _, _, _, _, h => by cases h
  | n + 1, v1, v2, v3, σ, r, σ2, h => m_sets2_117_H2_ok hd (m_sets2_117_L2_ok hd n) v1 v2 v3 σ r σ2 h
theorem m_sets2_117_ok {d : Nat} (hd : 1 ≤ d) {v1 : Int32} {v2 : Int32} {σ : Sg} {r : Unit} {σ2 : Sg} (h : m_sets2_117 v1 v2 σ = some (r, σ2)) : Ev MT CT d 204 [.ref 117, .int v1, .int v2] σ (fun v s => v = none ∧ s = σ2) := by
  obtain ⟨d, rfl⟩ : ∃ e, d = e + 1 := ⟨d - 1, by omega⟩
  refine ⟨Nat.le_of_ble_eq_true rfl, ?_⟩
  show Rc none (Ev MT CT d) sg204 (0, [(0, .ref 117), (1, .int v1), (2, .int v2)], [], σ) _
  unfold m_sets2_117 at h
  have hd : 0 ≤ d := by omega
  refine Rc.blk (c := []) (s2 := (2, [(3, .int 0), (0, .ref 117), (1, .int v1), (2, .int v2)], [], σ)) 0 rfl rfl (trivial) ?_
  refine Rc.pick [1, 2, 3, 0] (lv2 := [(0, .ref 117), (1, .int v1), (2, .int v2), (3, .int 0)]) rfl ?_
  exact m_sets2_117_L2_ok hd fu _ _ _ _ _ _ h
theorem m_atom_117_b210_ok (d0 : Nat) (rs : Int32 → Sg → Option (Unit × Sg)) (hrs : ∀ (v1 : Int32) (σ : Sg) (r : Unit) (σ2 : Sg), rs v1 σ = some (r, σ2) → Ev MT CT d0 209 [.ref 117, .int v1] σ (fun v s => v = none ∧ s = σ2)) {d : Nat} (hd : 1 ≤ d) (hd0 : d0 + 0 ≤ d) (σ : Sg) (r : Unit) (σ2 : Sg) (h : m_atom_117_b210 rs σ = some (r, σ2)) : Rc none (Ev MT CT d) sg206 (210, [], [], σ) (fun v s => v = none ∧ s = σ2) := by
  unfold m_atom_117_b210 at h
  obtain ⟨rfl, rfl⟩ := some_pair h
  exact Rc.ret 34 rfl rfl rfl trivial ⟨rfl, rfl⟩
theorem m_atom_117_H180_ok (d0 : Nat) (rs : Int32 → Sg → Option (Unit × Sg)) (hrs : ∀ (v1 : Int32) (σ : Sg) (r : Unit) (σ2 : Sg), rs v1 σ = some (r, σ2) → Ev MT CT d0 209 [.ref 117, .int v1] σ (fun v s => v = none ∧ s = σ2)) {d : Nat} (hd : 1 ≤ d) (hd0 : d0 + 0 ≤ d) {k180 : Sg → Option (Unit × Sg)} (hk180 : ∀ (σ : Sg) (r : Unit) (σ2 : Sg), k180 σ = some (r, σ2) → Rc none (Ev MT CT d) sg206 (180, [(0, .ref 117)], [], σ) (fun v s => v = none ∧ s = σ2)) (σ : Sg) (r : Unit) (σ2 : Sg) (h : m_atom_117_H180 rs k180 σ = some (r, σ2)) : Rc none (Ev MT CT d) sg206 (180, [(0, .ref 117)], [], σ) (fun v s => v = none ∧ s = σ2) := by
  unfold m_atom_117_H180 at h
  refine Rc.blk (c := []) (s2 := (181, [(0, .ref 117)], [.ref 117], σ)) 28 rfl rfl (trivial) ?_
  obtain ⟨r1, σ1, hc, h⟩ := bd_some h
  refine Rc.call (Ev.mono d) (v := some (.int r1)) (as := [.ref 117]) (r := []) 29 rfl rfl rfl rfl ⟨rfl, Nat.le_of_ble_eq_true rfl⟩ (m_sign_117_ok (by omega) hc) ?_
  show Rc _ _ _ (184, [(0, .ref 117)], [.int r1], σ1) _
  refine Rc.blk (c := []) (s2 := (191, [(0, .ref 117)], [.long 57, .long 48, .long r1.toInt64], σ1)) 30 rfl rfl (trivial) ?_
  obtain ⟨r2, σ2, hc, h⟩ := bd_some h
  refine Rc.call (Ev.mono d) (v := some (.int r2)) (as := [.long r1.toInt64, .long 48, .long 57]) (r := []) 31 rfl rfl rfl rfl (Nat.le_of_ble_eq_true rfl) (m_isIn_s_ok (by omega) hc) ?_
  show Rc _ _ _ (194, [(0, .ref 117)], [.int r2], σ2) _
  refine Rc.blk (c := []) (s2 := (if r2 = 0 then 210 else 197, [(0, .ref 117)], [], σ2)) 32 rfl rfl (trivial) ?_
  by_cases c3 : r2 = 0
  · rw [if_pos c3] at h
    refine Rc.ifp c3 ?_
    refine Rc.pick [] (lv2 := []) rfl ?_
    exact m_atom_117_b210_ok d0 rs hrs hd hd0 _ _ _ h
  · rw [if_neg c3] at h
    refine Rc.ifn c3 ?_
    refine Rc.blk (c := [_, _, _]) (s2 := (180, [(0, .ref 117)], [], si σ2 117 23 ((σ2.1 117 23) + 1))) 33 rfl rfl (conj_c (rfl) (conj_c (rfl) (conj_c (rfl) (trivial)))) ?_
    exact hk180 _ _ _ h
theorem m_atom_117_L180_ok (d0 : Nat) (rs : Int32 → Sg → Option (Unit × Sg)) (hrs : ∀ (v1 : Int32) (σ : Sg) (r : Unit) (σ2 : Sg), rs v1 σ = some (r, σ2) → Ev MT CT d0 209 [.ref 117, .int v1] σ (fun v s => v = none ∧ s = σ2)) {d : Nat} (hd : 1 ≤ d) (hd0 : d0 + 0 ≤ d) : ∀ (n : Nat) (σ : Sg) (r : Unit) (σ2 : Sg), m_atom_117_L180 rs n σ = some (r, σ2) → Rc none (Ev MT CT d) sg206 (180, [(0, .ref 117)], [], σ) (fun v s => v = none ∧ s = σ2)
  | 0, _, _, _, h => by cases h
  | n + 1, σ, r, σ2, h => m_atom_117_H180_ok d0 rs hrs hd hd0 (m_atom_117_L180_ok d0 rs hrs hd hd0 n) σ r σ2 h
theorem m_atom_117_b169_ok (d0 : Nat) (rs : Int32 → Sg → Option (Unit × Sg)) (hrs : ∀ (v1 : Int32) (σ : Sg) (r : Unit) (σ2 : Sg), rs v1 σ = some (r, σ2) → Ev MT CT d0 209 [.ref 117, .int v1] σ (fun v s => v = none ∧ s = σ2)) {d : Nat} (hd : 1 ≤ d) (hd0 : d0 + 0 ≤ d) (v1 : Int32) (s1 : Int32) (s2 : Int32) (s3 : Int32) (σ : Sg) (r : Unit) (σ2 : Sg) (h : m_atom_117_b169 rs v1 s1 s2 s3 σ = some (r, σ2)) : Rc none (Ev MT CT d) sg206 (169, [(0, .ref 117), (1, .int v1)], [.int s3, .int s2, .int s1, .ref 134], σ) (fun v s => v = none ∧ s = σ2) := by
  unfold m_atom_117_b169 at h
  obtain ⟨g1, h⟩ := gd_some h
  refine Rc.blk (c := [_]) (s2 := (174, [(0, .ref 117), (1, .int v1)], [.int 0, .int v1, .ref 117], si σ 134 s1.toNatClampNeg ((s2 ||| s3) &&& 1))) 25 rfl rfl (conj_c (⟨rfl, inB_in g1⟩) (trivial)) ?_
  obtain ⟨r2, σ2, hc, h⟩ := bd_some h
  refine Rc.call (Ev.mono d) (v := none) (as := [.ref 117, .int v1, .int 0]) (r := []) 26 rfl rfl rfl rfl ⟨rfl, Nat.le_of_ble_eq_true rfl⟩ (m_sets2_117_ok (by omega) hc) ?_
  show Rc _ _ _ (177, [(0, .ref 117), (1, .int v1)], [], σ2) _
  refine Rc.blk (c := []) (s2 := (210, [(0, .ref 117), (1, .int v1)], [], σ2)) 27 rfl rfl (trivial) ?_
  refine Rc.pick [] (lv2 := []) rfl ?_
  exact m_atom_117_b210_ok d0 rs hrs hd hd0 _ _ _ h
theorem m_atom_117_H58_ok (d0 : Nat) (rs : Int32 → Sg → Option (Unit × Sg)) (hrs : ∀ (v1 : Int32) (σ : Sg) (r : Unit) (σ2 : Sg), rs v1 σ = some (r, σ2) → Ev MT CT d0 209 [.ref 117, .int v1] σ (fun v s => v = none ∧ s = σ2)) {d : Nat} (hd : 1 ≤ d) (hd0 : d0 + 0 ≤ d) {k58 : Int32 → Int32 → Int32 → Sg → Option (Unit × Sg)} (hk58 : ∀ (v1 : Int32) (v2 : Int32) (v4 : Int32) (σ : Sg) (r : Unit) (σ2 : Sg), k58 v1 v2 v4 σ = some (r, σ2) → Rc none (Ev MT CT d) sg206 (58, [(0, .ref 117), (1, .int v1), (2, .int v2), (4, .int v4)], [], σ) (fun v s => v = none ∧ s = σ2)) (v1 : Int32) (v2 : Int32) (v4 : Int32) (σ : Sg) (r : Unit) (σ2 : Sg) (h : m_atom_117_H58 rs k58 v1 v2 v4 σ = some (r, σ2)) : Rc none (Ev MT CT d) sg206 (58, [(0, .ref 117), (1, .int v1), (2, .int v2), (4, .int v4)], [], σ) (fun v s => v = none ∧ s = σ2) := by
  unfold m_atom_117_H58 at h
  refine Rc.blk (c := []) (s2 := (if 5 ≤ v4 then 91 else 64, [(0, .ref 117), (1, .int v1), (2, .int v2), (4, .int v4)], [], σ)) 8 rfl rfl (trivial) ?_
  by_cases c3 : 5 ≤ v4
  · rw [if_pos c3] at h
    refine Rc.ifp c3 ?_
    refine Rc.blk (c := []) (s2 := (210, [(0, .ref 117), (1, .int v1), (2, .int v2), (4, .int v4)], [], σ)) 12 rfl rfl (trivial) ?_
    refine Rc.pick [] (lv2 := []) rfl ?_
    exact m_atom_117_b210_ok d0 rs hrs hd hd0 _ _ _ h
  · rw [if_neg c3] at h
    refine Rc.ifn c3 ?_
    refine Rc.blk (c := [_]) (s2 := (81, [(0, .ref 117), (1, .int v1), (2, .int v2), (4, .int v4)], [.int v4, .int (v2 - 65), .ref 117, .int ((5 * v1) + v4), .ref 132], σ)) 9 rfl rfl (conj_c (rfl) (trivial)) ?_
    obtain ⟨r1, σ1, hc, h⟩ := bd_some h
    refine Rc.call (Ev.mono d) (v := some (.int r1)) (as := [.ref 117, .int (v2 - 65), .int v4]) (r := [.int ((5 * v1) + v4), .ref 132]) 10 rfl rfl rfl rfl ⟨rfl, Nat.le_of_ble_eq_true rfl⟩ (m_powerOf_117_ok (by omega) hc) ?_
    show Rc _ _ _ (84, [(0, .ref 117), (1, .int v1), (2, .int v2), (4, .int v4)], [.int r1, .int ((5 * v1) + v4), .ref 132], σ1) _
    obtain ⟨g2, h⟩ := gd_some h
    refine Rc.blk (c := [_]) (s2 := (58, [(4, .int (v4 + 1)), (0, .ref 117), (1, .int v1), (2, .int v2)], [], si σ1 132 ((5 * v1) + v4).toNatClampNeg r1)) 11 rfl rfl (conj_c (⟨rfl, inB_in g2⟩) (trivial)) ?_
    refine Rc.pick [1, 2, 3, 0] (lv2 := [(0, .ref 117), (1, .int v1), (2, .int v2), (4, .int (v4 + 1))]) rfl ?_
    exact hk58 _ _ _ _ _ _ h
theorem m_atom_117_L58_ok (d0 : Nat) (rs : Int32 → Sg → Option (Unit × Sg)) (hrs : ∀ (v1 : Int32) (σ : Sg) (r : Unit) (σ2 : Sg), rs v1 σ = some (r, σ2) → Ev MT CT d0 209 [.ref 117, .int v1] σ (fun v s => v = none ∧ s = σ2)) {d : Nat} (hd : 1 ≤ d) (hd0 : d0 + 0 ≤ d) : ∀ (n : Nat) (v1 : Int32) (v2 : Int32) (v4 : Int32) (σ : Sg) (r : Unit) (σ2 : Sg), m_atom_117_L58 rs n v1 v2 v4 σ = some (r, σ2) → Rc none (Ev MT CT d) sg206 (58, [(0, .ref 117), (1, .int v1), (2, .int v2), (4, .int v4)], [], σ) (fun v s => v = none ∧ s = σ2)
  | 0, _, _, _, _, _, _, h => by cases h
  | n + 1, v1, v2, v4, σ, r, σ2, h => m_atom_117_H58_ok d0 rs hrs hd hd0 (m_atom_117_L58_ok d0 rs hrs hd hd0 n) v1 v2 v4 σ r σ2 h
theorem m_atom_117_ok (d0 : Nat) (rs : Int32 → Sg → Option (Unit × Sg)) (hrs : ∀ (v1 : Int32) (σ : Sg) (r : Unit) (σ2 : Sg), rs v1 σ = some (r, σ2) → Ev MT CT d0 209 [.ref 117, .int v1] σ (fun v s => v = none ∧ s = σ2)) {d : Nat} (hd : 2 ≤ d) (hd0 : d0 + 1 ≤ d) {v1 : Int32} {σ : Sg} {r : Unit} {σ2 : Sg} (h : m_atom_117 rs v1 σ = some (r, σ2)) : Ev MT CT d 206 [.ref 117, .int v1] σ (fun v s => v = none ∧ s = σ2) := by
  obtain ⟨d, rfl⟩ : ∃ e, d = e + 1 := ⟨d - 1, by omega⟩
  refine ⟨Nat.le_of_ble_eq_true rfl, ?_⟩
  show Rc none (Ev MT CT d) sg206 (0, [(0, .ref 117), (1, .int v1)], [], σ) _
  unfold m_atom_117 at h
  have hd : 1 ≤ d := by omega
  have hd0 : d0 + 0 ≤ d := by omega
  refine Rc.blk (c := []) (s2 := (1, [(0, .ref 117), (1, .int v1)], [.ref 117], σ)) 0 rfl rfl (trivial) ?_
  obtain ⟨r1, σ1, hc, h⟩ := bd_some h
  refine Rc.call (Ev.mono d) (v := some (.int r1)) (as := [.ref 117]) (r := []) 1 rfl rfl rfl rfl ⟨rfl, Nat.le_of_ble_eq_true rfl⟩ (m_sign_117_ok (by omega) hc) ?_
  show Rc _ _ _ (4, [(0, .ref 117), (1, .int v1)], [.int r1], σ1) _
  refine Rc.blk (c := [_, _, _, _]) (s2 := (23, [(3, .int (σ1.1 117 23)), (2, .int r1), (0, .ref 117), (1, .int v1)], [.int 0, .int v1, .ref 117], si σ1 117 23 ((σ1.1 117 23) + 1))) 2 rfl rfl (conj_c (rfl) (conj_c (rfl) (conj_c (rfl) (conj_c (rfl) (trivial))))) ?_
  obtain ⟨r2, σ2, hc, h⟩ := bd_some h
  refine Rc.call (Ev.mono d) (v := none) (as := [.ref 117, .int v1, .int 0]) (r := []) 3 rfl rfl rfl rfl ⟨rfl, Nat.le_of_ble_eq_true rfl⟩ (m_sets2_117_ok (by omega) hc) ?_
  show Rc _ _ _ (26, [(3, .int (σ1.1 117 23)), (2, .int r1), (0, .ref 117), (1, .int v1)], [], σ2) _
  refine Rc.blk (c := []) (s2 := (34, [(3, .int (σ1.1 117 23)), (2, .int r1), (0, .ref 117), (1, .int v1)], [.long 90, .long 65, .long r1.toInt64], σ2)) 4 rfl rfl (trivial) ?_
  obtain ⟨r3, σ3, hc, h⟩ := bd_some h
  refine Rc.call (Ev.mono d) (v := some (.int r3)) (as := [.long r1.toInt64, .long 65, .long 90]) (r := []) 5 rfl rfl rfl rfl (Nat.le_of_ble_eq_true rfl) (m_isIn_s_ok (by omega) hc) ?_
  show Rc _ _ _ (37, [(3, .int (σ1.1 117 23)), (2, .int r1), (0, .ref 117), (1, .int v1)], [.int r3], σ3) _
  refine Rc.blk (c := []) (s2 := (if r3 = 0 then 94 else 40, [(3, .int (σ1.1 117 23)), (2, .int r1), (0, .ref 117), (1, .int v1)], [], σ3)) 6 rfl rfl (trivial) ?_
  by_cases c11 : r3 = 0
  · rw [if_pos c11] at h
    refine Rc.ifp c11 ?_
    refine Rc.blk (c := []) (s2 := (if ¬ r1 = 40 then 118 else 100, [(3, .int (σ1.1 117 23)), (2, .int r1), (0, .ref 117), (1, .int v1)], [], σ3)) 13 rfl rfl (trivial) ?_
    by_cases c10 : r1 = 40
    · rw [if_pos c10] at h
      refine Rc.ifn (fun q => q c10) ?_
      refine Rc.blk (c := []) (s2 := (102, [(3, .int (σ1.1 117 23)), (2, .int r1), (0, .ref 117), (1, .int v1)], [.int v1, .ref 117], σ3)) 14 rfl rfl (trivial) ?_
      obtain ⟨r9, σ9, hc, h⟩ := bd_some h
      refine Rc.call (Ev.mono d) (v := none) (as := [.ref 117, .int v1]) (r := []) 15 rfl rfl rfl rfl ⟨rfl, Nat.le_of_ble_eq_true rfl⟩ (Ev.le (by omega) (hrs _ _ _ _ hc)) ?_
      show Rc _ _ _ (105, [(3, .int (σ1.1 117 23)), (2, .int r1), (0, .ref 117), (1, .int v1)], [], σ9) _
      refine Rc.blk (c := [_, _, _]) (s2 := (210, [(3, .int (σ1.1 117 23)), (2, .int r1), (0, .ref 117), (1, .int v1)], [], si σ9 117 23 ((σ9.1 117 23) + 1))) 16 rfl rfl (conj_c (rfl) (conj_c (rfl) (conj_c (rfl) (trivial)))) ?_
      refine Rc.pick [] (lv2 := []) rfl ?_
      exact m_atom_117_b210_ok d0 rs hrs hd hd0 _ _ _ h
    · rw [if_neg c10] at h
      refine Rc.ifp c10 ?_
      refine Rc.blk (c := []) (s2 := (if ¬ r1 = 115 then 180 else 124, [(3, .int (σ1.1 117 23)), (2, .int r1), (0, .ref 117), (1, .int v1)], [], σ3)) 17 rfl rfl (trivial) ?_
      by_cases c8 : r1 = 115
      · rw [if_pos c8] at h
        refine Rc.ifn (fun q => q c8) ?_
        refine Rc.blk (c := [_, _, _]) (s2 := (136, [(3, .int (σ1.1 117 23)), (2, .int r1), (0, .ref 117), (1, .int v1)], [.int v1, .ref 117], si σ3 117 23 ((σ3.1 117 23) + 1))) 18 rfl rfl (conj_c (rfl) (conj_c (rfl) (conj_c (rfl) (trivial)))) ?_
        obtain ⟨r4, σ4, hc, h⟩ := bd_some h
        refine Rc.call (Ev.mono d) (v := none) (as := [.ref 117, .int v1]) (r := []) 19 rfl rfl rfl rfl ⟨rfl, Nat.le_of_ble_eq_true rfl⟩ (Ev.le (by omega) (hrs _ _ _ _ hc)) ?_
        show Rc _ _ _ (139, [(3, .int (σ1.1 117 23)), (2, .int r1), (0, .ref 117), (1, .int v1)], [], σ4) _
        obtain ⟨g5, h⟩ := gd_some h
        refine Rc.blk (c := [_, _, _, _, _, _]) (s2 := (158, [(3, .int (σ1.1 117 23)), (2, .int r1), (0, .ref 117), (1, .int v1)], [.int v1, .ref 117, .int ((si σ4 117 23 ((σ4.1 117 23) + 1)).1 134 (σ1.1 117 23).toNatClampNeg), .int (σ1.1 117 23), .ref 134], si σ4 117 23 ((σ4.1 117 23) + 1))) 20 rfl rfl (conj_c (rfl) (conj_c (rfl) (conj_c (rfl) (conj_c (rfl) (conj_c (⟨rfl, rfl⟩) (conj_c (⟨rfl, inB_in g5⟩) (trivial))))))) ?_
        obtain ⟨r6, σ6, hc, h⟩ := bd_some h
        refine Rc.call (Ev.mono d) (v := some (.int r6)) (as := [.ref 117, .int v1]) (r := [.int ((si σ4 117 23 ((σ4.1 117 23) + 1)).1 134 (σ1.1 117 23).toNatClampNeg), .int (σ1.1 117 23), .ref 134]) 21 rfl rfl rfl rfl ⟨rfl, Nat.le_of_ble_eq_true rfl⟩ (m_isPureAt_117_ok (by omega) hc) ?_
        show Rc _ _ _ (161, [(3, .int (σ1.1 117 23)), (2, .int r1), (0, .ref 117), (1, .int v1)], [.int r6, .int ((si σ4 117 23 ((σ4.1 117 23) + 1)).1 134 (σ1.1 117 23).toNatClampNeg), .int (σ1.1 117 23), .ref 134], σ6) _
        refine Rc.blk (c := []) (s2 := (if ¬ r6 = 0 then 168 else 164, [(3, .int (σ1.1 117 23)), (2, .int r1), (0, .ref 117), (1, .int v1)], [.int ((si σ4 117 23 ((σ4.1 117 23) + 1)).1 134 (σ1.1 117 23).toNatClampNeg), .int (σ1.1 117 23), .ref 134], σ6)) 22 rfl rfl (trivial) ?_
        by_cases c7 : r6 = 0
        · rw [if_pos c7] at h
          refine Rc.ifn (fun q => q c7) ?_
          refine Rc.blk (c := []) (s2 := (169, [(3, .int (σ1.1 117 23)), (2, .int r1), (0, .ref 117), (1, .int v1)], [.int 1, .int ((si σ4 117 23 ((σ4.1 117 23) + 1)).1 134 (σ1.1 117 23).toNatClampNeg), .int (σ1.1 117 23), .ref 134], σ6)) 23 rfl rfl (trivial) ?_
          refine Rc.pick [2, 3] (lv2 := [(0, .ref 117), (1, .int v1)]) rfl ?_
          exact m_atom_117_b169_ok d0 rs hrs hd hd0 _ _ _ _ _ _ _ h
        · rw [if_neg c7] at h
          refine Rc.ifp c7 ?_
          refine Rc.blk (c := []) (s2 := (169, [(3, .int (σ1.1 117 23)), (2, .int r1), (0, .ref 117), (1, .int v1)], [.int 0, .int ((si σ4 117 23 ((σ4.1 117 23) + 1)).1 134 (σ1.1 117 23).toNatClampNeg), .int (σ1.1 117 23), .ref 134], σ6)) 24 rfl rfl (trivial) ?_
          refine Rc.pick [2, 3] (lv2 := [(0, .ref 117), (1, .int v1)]) rfl ?_
          exact m_atom_117_b169_ok d0 rs hrs hd hd0 _ _ _ _ _ _ _ h
      · rw [if_neg c8] at h
        refine Rc.ifp c8 ?_
        refine Rc.pick [2] (lv2 := [(0, .ref 117)]) rfl ?_
        exact m_atom_117_L180_ok d0 rs hrs hd hd0 fu _ _ _ h
  · rw [if_neg c11] at h
    refine Rc.ifn c11 ?_
    refine Rc.blk (c := [_, _, _]) (s2 := (58, [(4, .int 0), (3, .int (σ1.1 117 23)), (2, .int r1), (0, .ref 117), (1, .int v1)], [], si σ3 117 24 ((σ3.1 117 24) ||| ((1 : Int32) <<< ((r1 - 65) &&& 31))))) 7 rfl rfl (conj_c (rfl) (conj_c (rfl) (conj_c (rfl) (trivial)))) ?_
    refine Rc.pick [3, 4, 2, 0] (lv2 := [(0, .ref 117), (1, .int v1), (2, .int r1), (4, .int 0)]) rfl ?_
    exact m_atom_117_L58_ok d0 rs hrs hd hd0 fu _ _ _ _ _ _ h
theorem m_part_117_H80_ok (d0 : Nat) (rs : Int32 → Sg → Option (Unit × Sg)) (hrs : ∀ (v1 : Int32) (σ : Sg) (r : Unit) (σ2 : Sg), rs v1 σ = some (r, σ2) → Ev MT CT d0 209 [.ref 117, .int v1] σ (fun v s => v = none ∧ s = σ2)) {d : Nat} (hd : 2 ≤ d) (hd0 : d0 + 1 ≤ d) {k80 : Int32 → Int32 → Int32 → Sg → Option (Unit × Sg)} (hk80 : ∀ (v1 : Int32) (v2 : Int32) (v3 : Int32) (σ : Sg) (r : Unit) (σ2 : Sg), k80 v1 v2 v3 σ = some (r, σ2) → Rc none (Ev MT CT d) sg207 (80, [(0, .ref 117), (1, .int v1), (2, .int v2), (3, .int v3)], [], σ) (fun v s => v = none ∧ s = σ2)) (v1 : Int32) (v2 : Int32) (v3 : Int32) (σ : Sg) (r : Unit) (σ2 : Sg) (h : m_part_117_H80 rs k80 v1 v2 v3 σ = some (r, σ2)) : Rc none (Ev MT CT d) sg207 (80, [(0, .ref 117), (1, .int v1), (2, .int v2), (3, .int v3)], [], σ) (fun v s => v = none ∧ s = σ2) := by
  unfold m_part_117_H80 at h
  refine Rc.blk (c := []) (s2 := (if 5 ≤ v3 then 105 else 85, [(0, .ref 117), (1, .int v1), (2, .int v2), (3, .int v3)], [], σ)) 17 rfl rfl (trivial) ?_
  by_cases c3 : 5 ≤ v3
  · rw [if_pos c3] at h
    refine Rc.ifp c3 ?_
    obtain ⟨rfl, rfl⟩ := some_pair h
    exact Rc.ret 19 rfl rfl rfl trivial ⟨rfl, rfl⟩
  · rw [if_neg c3] at h
    refine Rc.ifn c3 ?_
    obtain ⟨g1, h⟩ := gd_some h
    obtain ⟨g2, h⟩ := gd_some h
    refine Rc.blk (c := [_, _, _, _]) (s2 := (80, [(3, .int (v3 + 1)), (0, .ref 117), (1, .int v1), (2, .int v2)], [], si σ 132 ((5 * v1) + v3).toNatClampNeg ((σ.1 132 ((5 * v1) + v3).toNatClampNeg) * v2))) 18 rfl rfl (conj_c (rfl) (conj_c (⟨rfl, rfl⟩) (conj_c (⟨rfl, inB_in g1⟩) (conj_c (⟨rfl, inB_in g2⟩) (trivial))))) ?_
    refine Rc.pick [1, 2, 3, 0] (lv2 := [(0, .ref 117), (1, .int v1), (2, .int v2), (3, .int (v3 + 1))]) rfl ?_
    exact hk80 _ _ _ _ _ _ h
theorem m_part_117_L80_ok (d0 : Nat) (rs : Int32 → Sg → Option (Unit × Sg)) (hrs : ∀ (v1 : Int32) (σ : Sg) (r : Unit) (σ2 : Sg), rs v1 σ = some (r, σ2) → Ev MT CT d0 209 [.ref 117, .int v1] σ (fun v s => v = none ∧ s = σ2)) {d : Nat} (hd : 2 ≤ d) (hd0 : d0 + 1 ≤ d) : ∀ (n : Nat) (v1 : Int32) (v2 : Int32) (v3 : Int32) (σ : Sg) (r : Unit) (σ2 : Sg), m_part_117_L80 rs n v1 v2 v3 σ = some (r, σ2) → Rc none (Ev MT CT d) sg207 (80, [(0, .ref 117), (1, .int v1), (2, .int v2), (3, .int v3)], [], σ) (fun v s => v = none ∧ s = σ2)
  | 0, _, _, _, _, _, _, h => by cases h
  | n + 1, v1, v2, v3, σ, r, σ2, h => m_part_117_H80_ok d0 rs hrs hd hd0 (m_part_117_L80_ok d0 rs hrs hd hd0 n) v1 v2 v3 σ r σ2 h
theorem m_part_117_b54_ok (d0 : Nat) (rs : Int32 → Sg → Option (Unit × Sg)) (hrs : ∀ (v1 : Int32) (σ : Sg) (r : Unit) (σ2 : Sg), rs v1 σ = some (r, σ2) → Ev MT CT d0 209 [.ref 117, .int v1] σ (fun v s => v = none ∧ s = σ2)) {d : Nat} (hd : 2 ≤ d) (hd0 : d0 + 1 ≤ d) (v1 : Int32) (v2 : Int32) (s1 : Int32) (s2 : Int32) (σ : Sg) (r : Unit) (σ2 : Sg) (h : m_part_117_b54 rs v1 v2 s1 s2 σ = some (r, σ2)) : Rc none (Ev MT CT d) sg207 (54, [(0, .ref 117), (1, .int v1), (2, .int v2)], [.int s2, .int s1, .ref 117], σ) (fun v s => v = none ∧ s = σ2) := by
  unfold m_part_117_b54 at h
  refine Rc.blk (c := [_]) (s2 := (60, [(0, .ref 117), (1, .int v1), (2, .int v2)], [.ref 117, .int v2], si σ 117 23 (s1 + s2))) 14 rfl rfl (conj_c (rfl) (trivial)) ?_
  obtain ⟨r1, σ1, hc, h⟩ := bd_some h
  refine Rc.call (Ev.mono d) (v := some (.int r1)) (as := [.ref 117]) (r := [.int v2]) 15 rfl rfl rfl rfl ⟨rfl, Nat.le_of_ble_eq_true rfl⟩ (m_sign_117_ok (by omega) hc) ?_
  show Rc _ _ _ (63, [(0, .ref 117), (1, .int v1), (2, .int v2)], [.int r1, .int v2], σ1) _
  refine Rc.blk (c := [_, _, _]) (s2 := (80, [(3, .int 0), (2, .int (v2 * (r1 - 48))), (0, .ref 117), (1, .int v1)], [], si σ1 117 23 ((σ1.1 117 23) + 1))) 16 rfl rfl (conj_c (rfl) (conj_c (rfl) (conj_c (rfl) (trivial)))) ?_
  refine Rc.pick [2, 3, 1, 0] (lv2 := [(0, .ref 117), (1, .int v1), (2, .int (v2 * (r1 - 48))), (3, .int 0)]) rfl ?_
  exact m_part_117_L80_ok d0 rs hrs hd hd0 fu _ _ _ _ _ _ h
theorem m_part_117_b39_ok (d0 : Nat) (rs : Int32 → Sg → Option (Unit × Sg)) (hrs : ∀ (v1 : Int32) (σ : Sg) (r : Unit) (σ2 : Sg), rs v1 σ = some (r, σ2) → Ev MT CT d0 209 [.ref 117, .int v1] σ (fun v s => v = none ∧ s = σ2)) {d : Nat} (hd : 2 ≤ d) (hd0 : d0 + 1 ≤ d) (v1 : Int32) (s0 : Int32) (σ : Sg) (r : Unit) (σ2 : Sg) (h : m_part_117_b39 rs v1 s0 σ = some (r, σ2)) : Rc none (Ev MT CT d) sg207 (39, [(0, .ref 117), (1, .int v1)], [.int s0], σ) (fun v s => v = none ∧ s = σ2) := by
  unfold m_part_117_b39 at h
  refine Rc.blk (c := [_, _]) (s2 := (if 0 ≤ s0 then 53 else 49, [(2, .int s0), (0, .ref 117), (1, .int v1)], [.int (σ.1 117 23), .ref 117], σ)) 11 rfl rfl (conj_c (rfl) (conj_c (rfl) (trivial))) ?_
  by_cases c1 : 0 ≤ s0
  · rw [if_pos c1] at h
    refine Rc.ifp c1 ?_
    refine Rc.blk (c := []) (s2 := (54, [(2, .int s0), (0, .ref 117), (1, .int v1)], [.int 0, .int (σ.1 117 23), .ref 117], σ)) 13 rfl rfl (trivial) ?_
    refine Rc.pick [1, 2, 0] (lv2 := [(0, .ref 117), (1, .int v1), (2, .int s0)]) rfl ?_
    exact m_part_117_b54_ok d0 rs hrs hd hd0 _ _ _ _ _ _ _ h
  · rw [if_neg c1] at h
    refine Rc.ifn c1 ?_
    refine Rc.blk (c := []) (s2 := (54, [(2, .int s0), (0, .ref 117), (1, .int v1)], [.int 1, .int (σ.1 117 23), .ref 117], σ)) 12 rfl rfl (trivial) ?_
    refine Rc.pick [1, 2, 0] (lv2 := [(0, .ref 117), (1, .int v1), (2, .int s0)]) rfl ?_
    exact m_part_117_b54_ok d0 rs hrs hd hd0 _ _ _ _ _ _ _ h
theorem m_part_117_ok (d0 : Nat) (rs : Int32 → Sg → Option (Unit × Sg)) (hrs : ∀ (v1 : Int32) (σ : Sg) (r : Unit) (σ2 : Sg), rs v1 σ = some (r, σ2) → Ev MT CT d0 209 [.ref 117, .int v1] σ (fun v s => v = none ∧ s = σ2)) {d : Nat} (hd : 3 ≤ d) (hd0 : d0 + 2 ≤ d) {v1 : Int32} {σ : Sg} {r : Unit} {σ2 : Sg} (h : m_part_117 rs v1 σ = some (r, σ2)) : Ev MT CT d 207 [.ref 117, .int v1] σ (fun v s => v = none ∧ s = σ2) := by
  obtain ⟨d, rfl⟩ : ∃ e, d = e + 1 := ⟨d - 1, by omega⟩
  refine ⟨Nat.le_of_ble_eq_true rfl, ?_⟩
  show Rc none (Ev MT CT d) sg207 (0, [(0, .ref 117), (1, .int v1)], [], σ) _
  unfold m_part_117 at h
  have hd : 2 ≤ d := by omega
  have hd0 : d0 + 1 ≤ d := by omega
  refine Rc.blk (c := []) (s2 := (2, [(0, .ref 117), (1, .int v1)], [.int v1, .ref 117], σ)) 0 rfl rfl (trivial) ?_
  obtain ⟨r1, σ1, hc, h⟩ := bd_some h
  refine Rc.call (Ev.mono d) (v := none) (as := [.ref 117, .int v1]) (r := []) 1 rfl rfl rfl rfl ⟨rfl, Nat.le_of_ble_eq_true rfl⟩ (m_atom_117_ok d0 rs hrs (by omega) (by omega) hc) ?_
  show Rc _ _ _ (5, [(0, .ref 117), (1, .int v1)], [], σ1) _
  refine Rc.blk (c := []) (s2 := (6, [(0, .ref 117), (1, .int v1)], [.ref 117], σ1)) 2 rfl rfl (trivial) ?_
  obtain ⟨r2, σ2, hc, h⟩ := bd_some h
  refine Rc.call (Ev.mono d) (v := some (.int r2)) (as := [.ref 117]) (r := []) 3 rfl rfl rfl rfl ⟨rfl, Nat.le_of_ble_eq_true rfl⟩ (m_sign_117_ok (by omega) hc) ?_
  show Rc _ _ _ (9, [(0, .ref 117), (1, .int v1)], [.int r2], σ2) _
  refine Rc.blk (c := []) (s2 := (if r2 = 94 then 15 else 14, [(0, .ref 117), (1, .int v1)], [], σ2)) 4 rfl rfl (trivial) ?_
  by_cases c5 : r2 = 94
  · rw [if_pos c5] at h
    refine Rc.ifp c5 ?_
    refine Rc.blk (c := [_, _, _]) (s2 := (26, [(0, .ref 117), (1, .int v1)], [.ref 117], si σ2 117 23 ((σ2.1 117 23) + 1))) 6 rfl rfl (conj_c (rfl) (conj_c (rfl) (conj_c (rfl) (trivial)))) ?_
    obtain ⟨r3, σ3, hc, h⟩ := bd_some h
    refine Rc.call (Ev.mono d) (v := some (.int r3)) (as := [.ref 117]) (r := []) 7 rfl rfl rfl rfl ⟨rfl, Nat.le_of_ble_eq_true rfl⟩ (m_sign_117_ok (by omega) hc) ?_
    show Rc _ _ _ (29, [(0, .ref 117), (1, .int v1)], [.int r3], σ3) _
    refine Rc.blk (c := []) (s2 := (if ¬ r3 = 45 then 38 else 34, [(0, .ref 117), (1, .int v1)], [], σ3)) 8 rfl rfl (trivial) ?_
    by_cases c4 : r3 = 45
    · rw [if_pos c4] at h
      refine Rc.ifn (fun q => q c4) ?_
      refine Rc.blk (c := []) (s2 := (39, [(0, .ref 117), (1, .int v1)], [.int (-1)], σ3)) 9 rfl rfl (trivial) ?_
      exact m_part_117_b39_ok d0 rs hrs hd hd0 _ _ _ _ _ h
    · rw [if_neg c4] at h
      refine Rc.ifp c4 ?_
      refine Rc.blk (c := []) (s2 := (39, [(0, .ref 117), (1, .int v1)], [.int 1], σ3)) 10 rfl rfl (trivial) ?_
      exact m_part_117_b39_ok d0 rs hrs hd hd0 _ _ _ _ _ h
  · rw [if_neg c5] at h
    refine Rc.ifn c5 ?_
    obtain ⟨rfl, rfl⟩ := some_pair h
    exact Rc.ret 5 rfl rfl rfl trivial ⟨rfl, rfl⟩
theorem m_term_117_H57_ok (d0 : Nat) (rs : Int32 → Sg → Option (Unit × Sg)) (hrs : ∀ (v1 : Int32) (σ : Sg) (r : Unit) (σ2 : Sg), rs v1 σ = some (r, σ2) → Ev MT CT d0 209 [.ref 117, .int v1] σ (fun v s => v = none ∧ s = σ2)) {d : Nat} (hd : 3 ≤ d) (hd0 : d0 + 2 ≤ d) {k5 : Int32 → Sg → Option (Unit × Sg)} {k57 : Int32 → Int32 → Int32 → Sg → Option (Unit × Sg)} (hk5 : ∀ (v1 : Int32) (σ : Sg) (r : Unit) (σ2 : Sg), k5 v1 σ = some (r, σ2) → Rc none (Ev MT CT d) sg208 (5, [(0, .ref 117), (1, .int v1)], [], σ) (fun v s => v = none ∧ s = σ2)) (hk57 : ∀ (v1 : Int32) (v2 : Int32) (v3 : Int32) (σ : Sg) (r : Unit) (σ2 : Sg), k57 v1 v2 v3 σ = some (r, σ2) → Rc none (Ev MT CT d) sg208 (57, [(0, .ref 117), (1, .int v1), (2, .int v2), (3, .int v3)], [], σ) (fun v s => v = none ∧ s = σ2)) (v1 : Int32) (v2 : Int32) (v3 : Int32) (σ : Sg) (r : Unit) (σ2 : Sg) (h : m_term_117_H57 rs k5 k57 v1 v2 v3 σ = some (r, σ2)) : Rc none (Ev MT CT d) sg208 (57, [(0, .ref 117), (1, .int v1), (2, .int v2), (3, .int v3)], [], σ) (fun v s => v = none ∧ s = σ2) := by
  unfold m_term_117_H57 at h
  refine Rc.blk (c := []) (s2 := (if 5 ≤ v3 then 95 else 62, [(0, .ref 117), (1, .int v1), (2, .int v2), (3, .int v3)], [], σ)) 16 rfl rfl (trivial) ?_
  by_cases c4 : 5 ≤ v3
  · rw [if_pos c4] at h
    refine Rc.ifp c4 ?_
    refine Rc.blk (c := []) (s2 := (5, [(0, .ref 117), (1, .int v1), (2, .int v2), (3, .int v3)], [], σ)) 18 rfl rfl (trivial) ?_
    refine Rc.pick [0, 1] (lv2 := [(0, .ref 117), (1, .int v1)]) rfl ?_
    exact hk5 _ _ _ _ h
  · rw [if_neg c4] at h
    refine Rc.ifn c4 ?_
    obtain ⟨g1, h⟩ := gd_some h
    obtain ⟨g2, h⟩ := gd_some h
    obtain ⟨g3, h⟩ := gd_some h
    refine Rc.blk (c := [_, _, _, _, _, _]) (s2 := (57, [(3, .int (v3 + 1)), (0, .ref 117), (1, .int v1), (2, .int v2)], [], si σ 132 ((5 * v1) + v3).toNatClampNeg ((σ.1 132 ((5 * v1) + v3).toNatClampNeg) + (v2 * (σ.1 132 ((5 * (v1 + 1)) + v3).toNatClampNeg))))) 17 rfl rfl (conj_c (rfl) (conj_c (⟨rfl, rfl⟩) (conj_c (⟨rfl, inB_in g1⟩) (conj_c (rfl) (conj_c (⟨rfl, inB_in g2⟩) (conj_c (⟨rfl, inB_in g3⟩) (trivial))))))) ?_
    refine Rc.pick [1, 2, 3, 0] (lv2 := [(0, .ref 117), (1, .int v1), (2, .int v2), (3, .int (v3 + 1))]) rfl ?_
    exact hk57 _ _ _ _ _ _ h
theorem m_term_117_L57_ok (d0 : Nat) (rs : Int32 → Sg → Option (Unit × Sg)) (hrs : ∀ (v1 : Int32) (σ : Sg) (r : Unit) (σ2 : Sg), rs v1 σ = some (r, σ2) → Ev MT CT d0 209 [.ref 117, .int v1] σ (fun v s => v = none ∧ s = σ2)) {d : Nat} (hd : 3 ≤ d) (hd0 : d0 + 2 ≤ d) {k5 : Int32 → Sg → Option (Unit × Sg)} (hk5 : ∀ (v1 : Int32) (σ : Sg) (r : Unit) (σ2 : Sg), k5 v1 σ = some (r, σ2) → Rc none (Ev MT CT d) sg208 (5, [(0, .ref 117), (1, .int v1)], [], σ) (fun v s => v = none ∧ s = σ2)) : ∀ (n : Nat) (v1 : Int32) (v2 : Int32) (v3 : Int32) (σ : Sg) (r : Unit) (σ2 : Sg), m_term_117_L57 rs k5 n v1 v2 v3 σ = some (r, σ2) → Rc none (Ev MT CT d) sg208 (57, [(0, .ref 117), (1, .int v1), (2, .int v2), (3, .int v3)], [], σ) (fun v s => v = none ∧ s = σ2)
  | 0, _, _, _, _, _, _, h => by cases h
  | n + 1, v1, v2, v3, σ, r, σ2, h => m_term_117_H57_ok d0 rs hrs hd hd0 hk5 (m_term_117_L57_ok d0 rs hrs hd hd0 hk5 n) v1 v2 v3 σ r σ2 h
theorem m_term_117_b37_ok (d0 : Nat) (rs : Int32 → Sg → Option (Unit × Sg)) (hrs : ∀ (v1 : Int32) (σ : Sg) (r : Unit) (σ2 : Sg), rs v1 σ = some (r, σ2) → Ev MT CT d0 209 [.ref 117, .int v1] σ (fun v s => v = none ∧ s = σ2)) {d : Nat} (hd : 3 ≤ d) (hd0 : d0 + 2 ≤ d) {k5 : Int32 → Sg → Option (Unit × Sg)} (hk5 : ∀ (v1 : Int32) (σ : Sg) (r : Unit) (σ2 : Sg), k5 v1 σ = some (r, σ2) → Rc none (Ev MT CT d) sg208 (5, [(0, .ref 117), (1, .int v1)], [], σ) (fun v s => v = none ∧ s = σ2)) (v1 : Int32) (s0 : Int32) (σ : Sg) (r : Unit) (σ2 : Sg) (h : m_term_117_b37 rs k5 v1 s0 σ = some (r, σ2)) : Rc none (Ev MT CT d) sg208 (37, [(0, .ref 117), (1, .int v1)], [.int s0], σ) (fun v s => v = none ∧ s = σ2) := by
  unfold m_term_117_b37 at h
  refine Rc.blk (c := [_, _, _]) (s2 := (52, [(2, .int s0), (0, .ref 117), (1, .int v1)], [.int (v1 + 1), .ref 117], si σ 117 23 ((σ.1 117 23) + 1))) 13 rfl rfl (conj_c (rfl) (conj_c (rfl) (conj_c (rfl) (trivial)))) ?_
  obtain ⟨r1, σ1, hc, h⟩ := bd_some h
  refine Rc.call (Ev.mono d) (v := none) (as := [.ref 117, .int (v1 + 1)]) (r := []) 14 rfl rfl rfl rfl ⟨rfl, Nat.le_of_ble_eq_true rfl⟩ (m_part_117_ok d0 rs hrs (by omega) (by omega) hc) ?_
  show Rc _ _ _ (55, [(2, .int s0), (0, .ref 117), (1, .int v1)], [], σ1) _
  refine Rc.blk (c := []) (s2 := (57, [(3, .int 0), (2, .int s0), (0, .ref 117), (1, .int v1)], [], σ1)) 15 rfl rfl (trivial) ?_
  refine Rc.pick [2, 3, 1, 0] (lv2 := [(0, .ref 117), (1, .int v1), (2, .int s0), (3, .int 0)]) rfl ?_
  exact m_term_117_L57_ok d0 rs hrs hd hd0 hk5 fu _ _ _ _ _ _ h
theorem m_term_117_b23_ok (d0 : Nat) (rs : Int32 → Sg → Option (Unit × Sg)) (hrs : ∀ (v1 : Int32) (σ : Sg) (r : Unit) (σ2 : Sg), rs v1 σ = some (r, σ2) → Ev MT CT d0 209 [.ref 117, .int v1] σ (fun v s => v = none ∧ s = σ2)) {d : Nat} (hd : 3 ≤ d) (hd0 : d0 + 2 ≤ d) {k5 : Int32 → Sg → Option (Unit × Sg)} (hk5 : ∀ (v1 : Int32) (σ : Sg) (r : Unit) (σ2 : Sg), k5 v1 σ = some (r, σ2) → Rc none (Ev MT CT d) sg208 (5, [(0, .ref 117), (1, .int v1)], [], σ) (fun v s => v = none ∧ s = σ2)) (v1 : Int32) (σ : Sg) (r : Unit) (σ2 : Sg) (h : m_term_117_b23 rs k5 v1 σ = some (r, σ2)) : Rc none (Ev MT CT d) sg208 (23, [(0, .ref 117), (1, .int v1)], [], σ) (fun v s => v = none ∧ s = σ2) := by
  unfold m_term_117_b23 at h
  refine Rc.blk (c := []) (s2 := (24, [(0, .ref 117), (1, .int v1)], [.ref 117], σ)) 8 rfl rfl (trivial) ?_
  obtain ⟨r1, σ1, hc, h⟩ := bd_some h
  refine Rc.call (Ev.mono d) (v := some (.int r1)) (as := [.ref 117]) (r := []) 9 rfl rfl rfl rfl ⟨rfl, Nat.le_of_ble_eq_true rfl⟩ (m_sign_117_ok (by omega) hc) ?_
  show Rc _ _ _ (27, [(0, .ref 117), (1, .int v1)], [.int r1], σ1) _
  refine Rc.blk (c := []) (s2 := (if ¬ r1 = 42 then 36 else 32, [(0, .ref 117), (1, .int v1)], [], σ1)) 10 rfl rfl (trivial) ?_
  by_cases c2 : r1 = 42
  · rw [if_pos c2] at h
    refine Rc.ifn (fun q => q c2) ?_
    refine Rc.blk (c := []) (s2 := (37, [(0, .ref 117), (1, .int v1)], [.int 1], σ1)) 11 rfl rfl (trivial) ?_
    exact m_term_117_b37_ok d0 rs hrs hd hd0 hk5 _ _ _ _ _ h
  · rw [if_neg c2] at h
    refine Rc.ifp c2 ?_
    refine Rc.blk (c := []) (s2 := (37, [(0, .ref 117), (1, .int v1)], [.int (-1)], σ1)) 12 rfl rfl (trivial) ?_
    exact m_term_117_b37_ok d0 rs hrs hd hd0 hk5 _ _ _ _ _ h
theorem m_term_117_H5_ok (d0 : Nat) (rs : Int32 → Sg → Option (Unit × Sg)) (hrs : ∀ (v1 : Int32) (σ : Sg) (r : Unit) (σ2 : Sg), rs v1 σ = some (r, σ2) → Ev MT CT d0 209 [.ref 117, .int v1] σ (fun v s => v = none ∧ s = σ2)) {d : Nat} (hd : 3 ≤ d) (hd0 : d0 + 2 ≤ d) {k5 : Int32 → Sg → Option (Unit × Sg)} (hk5 : ∀ (v1 : Int32) (σ : Sg) (r : Unit) (σ2 : Sg), k5 v1 σ = some (r, σ2) → Rc none (Ev MT CT d) sg208 (5, [(0, .ref 117), (1, .int v1)], [], σ) (fun v s => v = none ∧ s = σ2)) (v1 : Int32) (σ : Sg) (r : Unit) (σ2 : Sg) (h : m_term_117_H5 rs k5 v1 σ = some (r, σ2)) : Rc none (Ev MT CT d) sg208 (5, [(0, .ref 117), (1, .int v1)], [], σ) (fun v s => v = none ∧ s = σ2) := by
  unfold m_term_117_H5 at h
  refine Rc.blk (c := []) (s2 := (6, [(0, .ref 117), (1, .int v1)], [.ref 117], σ)) 2 rfl rfl (trivial) ?_
  obtain ⟨r1, σ1, hc, h⟩ := bd_some h
  refine Rc.call (Ev.mono d) (v := some (.int r1)) (as := [.ref 117]) (r := []) 3 rfl rfl rfl rfl ⟨rfl, Nat.le_of_ble_eq_true rfl⟩ (m_sign_117_ok (by omega) hc) ?_
  show Rc _ _ _ (9, [(0, .ref 117), (1, .int v1)], [.int r1], σ1) _
  refine Rc.blk (c := []) (s2 := (if r1 = 42 then 23 else 14, [(0, .ref 117), (1, .int v1)], [], σ1)) 4 rfl rfl (trivial) ?_
  by_cases c4 : r1 = 42
  · rw [if_pos c4] at h
    refine Rc.ifp c4 ?_
    exact m_term_117_b23_ok d0 rs hrs hd hd0 hk5 _ _ _ _ h
  · rw [if_neg c4] at h
    refine Rc.ifn c4 ?_
    refine Rc.blk (c := []) (s2 := (15, [(0, .ref 117), (1, .int v1)], [.ref 117], σ1)) 5 rfl rfl (trivial) ?_
    obtain ⟨r2, σ2, hc, h⟩ := bd_some h
    refine Rc.call (Ev.mono d) (v := some (.int r2)) (as := [.ref 117]) (r := []) 6 rfl rfl rfl rfl ⟨rfl, Nat.le_of_ble_eq_true rfl⟩ (m_sign_117_ok (by omega) hc) ?_
    show Rc _ _ _ (18, [(0, .ref 117), (1, .int v1)], [.int r2], σ2) _
    refine Rc.blk (c := []) (s2 := (if ¬ r2 = 47 then 98 else 23, [(0, .ref 117), (1, .int v1)], [], σ2)) 7 rfl rfl (trivial) ?_
    by_cases c3 : r2 = 47
    · rw [if_pos c3] at h
      refine Rc.ifn (fun q => q c3) ?_
      exact m_term_117_b23_ok d0 rs hrs hd hd0 hk5 _ _ _ _ h
    · rw [if_neg c3] at h
      refine Rc.ifp c3 ?_
      obtain ⟨rfl, rfl⟩ := some_pair h
      exact Rc.ret 19 rfl rfl rfl trivial ⟨rfl, rfl⟩
theorem m_term_117_L5_ok (d0 : Nat) (rs : Int32 → Sg → Option (Unit × Sg)) (hrs : ∀ (v1 : Int32) (σ : Sg) (r : Unit) (σ2 : Sg), rs v1 σ = some (r, σ2) → Ev MT CT d0 209 [.ref 117, .int v1] σ (fun v s => v = none ∧ s = σ2)) {d : Nat} (hd : 3 ≤ d) (hd0 : d0 + 2 ≤ d) : ∀ (n : Nat) (v1 : Int32) (σ : Sg) (r : Unit) (σ2 : Sg), m_term_117_L5 rs n v1 σ = some (r, σ2) → Rc none (Ev MT CT d) sg208 (5, [(0, .ref 117), (1, .int v1)], [], σ) (fun v s => v = none ∧ s = σ2)
  | 0, _, _, _, _, h => by cases h
  | n + 1, v1, σ, r, σ2, h => m_term_117_H5_ok d0 rs hrs hd hd0 (m_term_117_L5_ok d0 rs hrs hd hd0 n) v1 σ r σ2 h
theorem m_term_117_ok (d0 : Nat) (rs : Int32 → Sg → Option (Unit × Sg)) (hrs : ∀ (v1 : Int32) (σ : Sg) (r : Unit) (σ2 : Sg), rs v1 σ = some (r, σ2) → Ev MT CT d0 209 [.ref 117, .int v1] σ (fun v s => v = none ∧ s = σ2)) {d : Nat} (hd : 4 ≤ d) (hd0 : d0 + 3 ≤ d) {v1 : Int32} {σ : Sg} {r : Unit} {σ2 : Sg} (h : m_term_117 rs v1 σ = some (r, σ2)) : Ev MT CT d 208 [.ref 117, .int v1] σ (fun v s => v = none ∧ s = σ2) := by
  obtain ⟨d, rfl⟩ : ∃ e, d = e + 1 := ⟨d - 1, by omega⟩
  refine ⟨Nat.le_of_ble_eq_true rfl, ?_⟩
  show Rc none (Ev MT CT d) sg208 (0, [(0, .ref 117), (1, .int v1)], [], σ) _
  unfold m_term_117 at h
  have hd : 3 ≤ d := by omega
  have hd0 : d0 + 2 ≤ d := by omega
  refine Rc.blk (c := []) (s2 := (2, [(0, .ref 117), (1, .int v1)], [.int v1, .ref 117], σ)) 0 rfl rfl (trivial) ?_
  obtain ⟨r1, σ1, hc, h⟩ := bd_some h
  refine Rc.call (Ev.mono d) (v := none) (as := [.ref 117, .int v1]) (r := []) 1 rfl rfl rfl rfl ⟨rfl, Nat.le_of_ble_eq_true rfl⟩ (m_part_117_ok d0 rs hrs (by omega) (by omega) hc) ?_
  show Rc _ _ _ (5, [(0, .ref 117), (1, .int v1)], [], σ1) _
  exact m_term_117_L5_ok d0 rs hrs hd hd0 fu _ _ _ _ h
theorem m_sum_117_b89_ok (d0 : Nat) (rs : Int32 → Sg → Option (Unit × Sg)) (hrs : ∀ (v1 : Int32) (σ : Sg) (r : Unit) (σ2 : Sg), rs v1 σ = some (r, σ2) → Ev MT CT d0 209 [.ref 117, .int v1] σ (fun v s => v = none ∧ s = σ2)) {d : Nat} (hd : 4 ≤ d) (hd0 : d0 + 3 ≤ d) {k5 : Int32 → Sg → Option (Unit × Sg)} {k47 : Int32 → Int32 → Int32 → Sg → Option (Unit × Sg)} (hk5 : ∀ (v1 : Int32) (σ : Sg) (r : Unit) (σ2 : Sg), k5 v1 σ = some (r, σ2) → Rc none (Ev MT CT d) sg209 (5, [(0, .ref 117), (1, .int v1)], [], σ) (fun v s => v = none ∧ s = σ2)) (hk47 : ∀ (v1 : Int32) (v2 : Int32) (v3 : Int32) (σ : Sg) (r : Unit) (σ2 : Sg), k47 v1 v2 v3 σ = some (r, σ2) → Rc none (Ev MT CT d) sg209 (47, [(0, .ref 117), (1, .int v1), (2, .int v2), (3, .int v3)], [], σ) (fun v s => v = none ∧ s = σ2)) (v1 : Int32) (v2 : Int32) (v3 : Int32) (s1 : Int32) (s2 : Int32) (s3 : Int32) (σ : Sg) (r : Unit) (σ2 : Sg) (h : m_sum_117_b89 rs k5 k47 v1 v2 v3 s1 s2 s3 σ = some (r, σ2)) : Rc none (Ev MT CT d) sg209 (89, [(0, .ref 117), (1, .int v1), (2, .int v2), (3, .int v3)], [.int s3, .int s2, .int s1, .ref 134], σ) (fun v s => v = none ∧ s = σ2) := by
  unfold m_sum_117_b89 at h
  obtain ⟨g1, h⟩ := gd_some h
  refine Rc.blk (c := [_]) (s2 := (47, [(3, .int (v3 + 1)), (0, .ref 117), (1, .int v1), (2, .int v2)], [], si σ 134 s1.toNatClampNeg ((s2 ||| s3) &&& 1))) 15 rfl rfl (conj_c (⟨rfl, inB_in g1⟩) (trivial)) ?_
  refine Rc.pick [1, 2, 3, 0] (lv2 := [(0, .ref 117), (1, .int v1), (2, .int v2), (3, .int (v3 + 1))]) rfl ?_
  exact hk47 _ _ _ _ _ _ h
theorem m_sum_117_H47_ok (d0 : Nat) (rs : Int32 → Sg → Option (Unit × Sg)) (hrs : ∀ (v1 : Int32) (σ : Sg) (r : Unit) (σ2 : Sg), rs v1 σ = some (r, σ2) → Ev MT CT d0 209 [.ref 117, .int v1] σ (fun v s => v = none ∧ s = σ2)) {d : Nat} (hd : 4 ≤ d) (hd0 : d0 + 3 ≤ d) {k5 : Int32 → Sg → Option (Unit × Sg)} {k47 : Int32 → Int32 → Int32 → Sg → Option (Unit × Sg)} (hk5 : ∀ (v1 : Int32) (σ : Sg) (r : Unit) (σ2 : Sg), k5 v1 σ = some (r, σ2) → Rc none (Ev MT CT d) sg209 (5, [(0, .ref 117), (1, .int v1)], [], σ) (fun v s => v = none ∧ s = σ2)) (hk47 : ∀ (v1 : Int32) (v2 : Int32) (v3 : Int32) (σ : Sg) (r : Unit) (σ2 : Sg), k47 v1 v2 v3 σ = some (r, σ2) → Rc none (Ev MT CT d) sg209 (47, [(0, .ref 117), (1, .int v1), (2, .int v2), (3, .int v3)], [], σ) (fun v s => v = none ∧ s = σ2)) (v1 : Int32) (v2 : Int32) (v3 : Int32) (σ : Sg) (r : Unit) (σ2 : Sg) (h : m_sum_117_H47 rs k5 k47 v1 v2 v3 σ = some (r, σ2)) : Rc none (Ev MT CT d) sg209 (47, [(0, .ref 117), (1, .int v1), (2, .int v2), (3, .int v3)], [], σ) (fun v s => v = none ∧ s = σ2) := by
  unfold m_sum_117_H47 at h
  refine Rc.blk (c := []) (s2 := (if 5 ≤ v3 then 97 else 52, [(0, .ref 117), (1, .int v1), (2, .int v2), (3, .int v3)], [], σ)) 11 rfl rfl (trivial) ?_
  by_cases c5 : 5 ≤ v3
  · rw [if_pos c5] at h
    refine Rc.ifp c5 ?_
    refine Rc.blk (c := []) (s2 := (5, [(0, .ref 117), (1, .int v1), (2, .int v2), (3, .int v3)], [], σ)) 16 rfl rfl (trivial) ?_
    refine Rc.pick [0, 1] (lv2 := [(0, .ref 117), (1, .int v1)]) rfl ?_
    exact hk5 _ _ _ _ h
  · rw [if_neg c5] at h
    refine Rc.ifn c5 ?_
    obtain ⟨g1, h⟩ := gd_some h
    obtain ⟨g2, h⟩ := gd_some h
    obtain ⟨g3, h⟩ := gd_some h
    refine Rc.blk (c := [_, _, _, _, _, _, _]) (s2 := (if (σ.1 132 ((5 * v1) + v3).toNatClampNeg) = (σ.1 132 ((5 * (v1 + 1)) + v3).toNatClampNeg) then 88 else 84, [(0, .ref 117), (1, .int v1), (2, .int v2), (3, .int v3)], [.int (σ.1 134 v2.toNatClampNeg), .int v2, .ref 134], σ)) 12 rfl rfl (conj_c (rfl) (conj_c (⟨rfl, rfl⟩) (conj_c (⟨rfl, inB_in g1⟩) (conj_c (rfl) (conj_c (⟨rfl, inB_in g2⟩) (conj_c (rfl) (conj_c (⟨rfl, inB_in g3⟩) (trivial)))))))) ?_
    by_cases c4 : (σ.1 132 ((5 * v1) + v3).toNatClampNeg) = (σ.1 132 ((5 * (v1 + 1)) + v3).toNatClampNeg)
    · rw [if_pos c4] at h
      refine Rc.ifp c4 ?_
      refine Rc.blk (c := []) (s2 := (89, [(0, .ref 117), (1, .int v1), (2, .int v2), (3, .int v3)], [.int 0, .int (σ.1 134 v2.toNatClampNeg), .int v2, .ref 134], σ)) 14 rfl rfl (trivial) ?_
      exact m_sum_117_b89_ok d0 rs hrs hd hd0 hk5 hk47 _ _ _ _ _ _ _ _ _ h
    · rw [if_neg c4] at h
      refine Rc.ifn c4 ?_
      refine Rc.blk (c := []) (s2 := (89, [(0, .ref 117), (1, .int v1), (2, .int v2), (3, .int v3)], [.int 1, .int (σ.1 134 v2.toNatClampNeg), .int v2, .ref 134], σ)) 13 rfl rfl (trivial) ?_
      exact m_sum_117_b89_ok d0 rs hrs hd hd0 hk5 hk47 _ _ _ _ _ _ _ _ _ h
theorem m_sum_117_L47_ok (d0 : Nat) (rs : Int32 → Sg → Option (Unit × Sg)) (hrs : ∀ (v1 : Int32) (σ : Sg) (r : Unit) (σ2 : Sg), rs v1 σ = some (r, σ2) → Ev MT CT d0 209 [.ref 117, .int v1] σ (fun v s => v = none ∧ s = σ2)) {d : Nat} (hd : 4 ≤ d) (hd0 : d0 + 3 ≤ d) {k5 : Int32 → Sg → Option (Unit × Sg)} (hk5 : ∀ (v1 : Int32) (σ : Sg) (r : Unit) (σ2 : Sg), k5 v1 σ = some (r, σ2) → Rc none (Ev MT CT d) sg209 (5, [(0, .ref 117), (1, .int v1)], [], σ) (fun v s => v = none ∧ s = σ2)) : ∀ (n : Nat) (v1 : Int32) (v2 : Int32) (v3 : Int32) (σ : Sg) (r : Unit) (σ2 : Sg), m_sum_117_L47 rs k5 n v1 v2 v3 σ = some (r, σ2) → Rc none (Ev MT CT d) sg209 (47, [(0, .ref 117), (1, .int v1), (2, .int v2), (3, .int v3)], [], σ) (fun v s => v = none ∧ s = σ2)
  | 0, _, _, _, _, _, _, h => by cases h
  | n + 1, v1, v2, v3, σ, r, σ2, h => m_sum_117_H47_ok d0 rs hrs hd hd0 hk5 (m_sum_117_L47_ok d0 rs hrs hd hd0 hk5 n) v1 v2 v3 σ r σ2 h
theorem m_sum_117_b23_ok (d0 : Nat) (rs : Int32 → Sg → Option (Unit × Sg)) (hrs : ∀ (v1 : Int32) (σ : Sg) (r : Unit) (σ2 : Sg), rs v1 σ = some (r, σ2) → Ev MT CT d0 209 [.ref 117, .int v1] σ (fun v s => v = none ∧ s = σ2)) {d : Nat} (hd : 4 ≤ d) (hd0 : d0 + 3 ≤ d) {k5 : Int32 → Sg → Option (Unit × Sg)} (hk5 : ∀ (v1 : Int32) (σ : Sg) (r : Unit) (σ2 : Sg), k5 v1 σ = some (r, σ2) → Rc none (Ev MT CT d) sg209 (5, [(0, .ref 117), (1, .int v1)], [], σ) (fun v s => v = none ∧ s = σ2)) (v1 : Int32) (σ : Sg) (r : Unit) (σ2 : Sg) (h : m_sum_117_b23 rs k5 v1 σ = some (r, σ2)) : Rc none (Ev MT CT d) sg209 (23, [(0, .ref 117), (1, .int v1)], [], σ) (fun v s => v = none ∧ s = σ2) := by
  unfold m_sum_117_b23 at h
  refine Rc.blk (c := [_, _, _, _]) (s2 := (42, [(2, .int ((si σ 117 23 ((σ.1 117 23) + 1)).1 117 23)), (0, .ref 117), (1, .int v1)], [.int (v1 + 1), .ref 117], si σ 117 23 ((σ.1 117 23) + 1))) 8 rfl rfl (conj_c (rfl) (conj_c (rfl) (conj_c (rfl) (conj_c (rfl) (trivial))))) ?_
  obtain ⟨r1, σ1, hc, h⟩ := bd_some h
  refine Rc.call (Ev.mono d) (v := none) (as := [.ref 117, .int (v1 + 1)]) (r := []) 9 rfl rfl rfl rfl ⟨rfl, Nat.le_of_ble_eq_true rfl⟩ (m_term_117_ok d0 rs hrs (by omega) (by omega) hc) ?_
  show Rc _ _ _ (45, [(2, .int ((si σ 117 23 ((σ.1 117 23) + 1)).1 117 23)), (0, .ref 117), (1, .int v1)], [], σ1) _
  refine Rc.blk (c := []) (s2 := (47, [(3, .int 0), (2, .int ((si σ 117 23 ((σ.1 117 23) + 1)).1 117 23)), (0, .ref 117), (1, .int v1)], [], σ1)) 10 rfl rfl (trivial) ?_
  refine Rc.pick [2, 3, 1, 0] (lv2 := [(0, .ref 117), (1, .int v1), (2, .int ((si σ 117 23 ((σ.1 117 23) + 1)).1 117 23)), (3, .int 0)]) rfl ?_
  exact m_sum_117_L47_ok d0 rs hrs hd hd0 hk5 fu _ _ _ _ _ _ h
theorem m_sum_117_H5_ok (d0 : Nat) (rs : Int32 → Sg → Option (Unit × Sg)) (hrs : ∀ (v1 : Int32) (σ : Sg) (r : Unit) (σ2 : Sg), rs v1 σ = some (r, σ2) → Ev MT CT d0 209 [.ref 117, .int v1] σ (fun v s => v = none ∧ s = σ2)) {d : Nat} (hd : 4 ≤ d) (hd0 : d0 + 3 ≤ d) {k5 : Int32 → Sg → Option (Unit × Sg)} (hk5 : ∀ (v1 : Int32) (σ : Sg) (r : Unit) (σ2 : Sg), k5 v1 σ = some (r, σ2) → Rc none (Ev MT CT d) sg209 (5, [(0, .ref 117), (1, .int v1)], [], σ) (fun v s => v = none ∧ s = σ2)) (v1 : Int32) (σ : Sg) (r : Unit) (σ2 : Sg) (h : m_sum_117_H5 rs k5 v1 σ = some (r, σ2)) : Rc none (Ev MT CT d) sg209 (5, [(0, .ref 117), (1, .int v1)], [], σ) (fun v s => v = none ∧ s = σ2) := by
  unfold m_sum_117_H5 at h
  refine Rc.blk (c := []) (s2 := (6, [(0, .ref 117), (1, .int v1)], [.ref 117], σ)) 2 rfl rfl (trivial) ?_
  obtain ⟨r1, σ1, hc, h⟩ := bd_some h
  refine Rc.call (Ev.mono d) (v := some (.int r1)) (as := [.ref 117]) (r := []) 3 rfl rfl rfl rfl ⟨rfl, Nat.le_of_ble_eq_true rfl⟩ (m_sign_117_ok (by omega) hc) ?_
  show Rc _ _ _ (9, [(0, .ref 117), (1, .int v1)], [.int r1], σ1) _
  refine Rc.blk (c := []) (s2 := (if r1 = 43 then 23 else 14, [(0, .ref 117), (1, .int v1)], [], σ1)) 4 rfl rfl (trivial) ?_
  by_cases c4 : r1 = 43
  · rw [if_pos c4] at h
    refine Rc.ifp c4 ?_
    exact m_sum_117_b23_ok d0 rs hrs hd hd0 hk5 _ _ _ _ h
  · rw [if_neg c4] at h
    refine Rc.ifn c4 ?_
    refine Rc.blk (c := []) (s2 := (15, [(0, .ref 117), (1, .int v1)], [.ref 117], σ1)) 5 rfl rfl (trivial) ?_
    obtain ⟨r2, σ2, hc, h⟩ := bd_some h
    refine Rc.call (Ev.mono d) (v := some (.int r2)) (as := [.ref 117]) (r := []) 6 rfl rfl rfl rfl ⟨rfl, Nat.le_of_ble_eq_true rfl⟩ (m_sign_117_ok (by omega) hc) ?_
    show Rc _ _ _ (18, [(0, .ref 117), (1, .int v1)], [.int r2], σ2) _
    refine Rc.blk (c := []) (s2 := (if ¬ r2 = 45 then 100 else 23, [(0, .ref 117), (1, .int v1)], [], σ2)) 7 rfl rfl (trivial) ?_
    by_cases c3 : r2 = 45
    · rw [if_pos c3] at h
      refine Rc.ifn (fun q => q c3) ?_
      exact m_sum_117_b23_ok d0 rs hrs hd hd0 hk5 _ _ _ _ h
    · rw [if_neg c3] at h
      refine Rc.ifp c3 ?_
      obtain ⟨rfl, rfl⟩ := some_pair h
      exact Rc.ret 17 rfl rfl rfl trivial ⟨rfl, rfl⟩
theorem m_sum_117_L5_ok (d0 : Nat) (rs : Int32 → Sg → Option (Unit × Sg)) (hrs : ∀ (v1 : Int32) (σ : Sg) (r : Unit) (σ2 : Sg), rs v1 σ = some (r, σ2) → Ev MT CT d0 209 [.ref 117, .int v1] σ (fun v s => v = none ∧ s = σ2)) {d : Nat} (hd : 4 ≤ d) (hd0 : d0 + 3 ≤ d) : ∀ (n : Nat) (v1 : Int32) (σ : Sg) (r : Unit) (σ2 : Sg), m_sum_117_L5 rs n v1 σ = some (r, σ2) → Rc none (Ev MT CT d) sg209 (5, [(0, .ref 117), (1, .int v1)], [], σ) (fun v s => v = none ∧ s = σ2)
  | 0, _, _, _, _, h => by cases h
  | n + 1, v1, σ, r, σ2, h => m_sum_117_H5_ok d0 rs hrs hd hd0 (m_sum_117_L5_ok d0 rs hrs hd hd0 n) v1 σ r σ2 h
theorem m_sum_117_H_ok (d0 : Nat) (rs : Int32 → Sg → Option (Unit × Sg)) (hrs : ∀ (v1 : Int32) (σ : Sg) (r : Unit) (σ2 : Sg), rs v1 σ = some (r, σ2) → Ev MT CT d0 209 [.ref 117, .int v1] σ (fun v s => v = none ∧ s = σ2)) {d : Nat} (hd : 5 ≤ d) (hd0 : d0 + 4 ≤ d) {v1 : Int32} {σ : Sg} {r : Unit} {σ2 : Sg} (h : m_sum_117_H rs v1 σ = some (r, σ2)) : Ev MT CT d 209 [.ref 117, .int v1] σ (fun v s => v = none ∧ s = σ2) := by
  obtain ⟨d, rfl⟩ : ∃ e, d = e + 1 := ⟨d - 1, by omega⟩
  refine ⟨Nat.le_of_ble_eq_true rfl, ?_⟩
  show Rc none (Ev MT CT d) sg209 (0, [(0, .ref 117), (1, .int v1)], [], σ) _
  unfold m_sum_117_H at h
  have hd : 4 ≤ d := by omega
  have hd0 : d0 + 3 ≤ d := by omega
  refine Rc.blk (c := []) (s2 := (2, [(0, .ref 117), (1, .int v1)], [.int v1, .ref 117], σ)) 0 rfl rfl (trivial) ?_
  obtain ⟨r1, σ1, hc, h⟩ := bd_some h
  refine Rc.call (Ev.mono d) (v := none) (as := [.ref 117, .int v1]) (r := []) 1 rfl rfl rfl rfl ⟨rfl, Nat.le_of_ble_eq_true rfl⟩ (m_term_117_ok d0 rs hrs (by omega) (by omega) hc) ?_
  show Rc _ _ _ (5, [(0, .ref 117), (1, .int v1)], [], σ1) _
  exact m_sum_117_L5_ok d0 rs hrs hd hd0 fu _ _ _ _ h
theorem m_sum_117_lv : ∀ (n : Nat) (v1 : Int32) (σ : Sg) (r : Unit) (σ2 : Sg), m_sum_117 n v1 σ = some (r, σ2) → Ev MT CT (5 + 4 * n) 209 [.ref 117, .int v1] σ (fun v s => v = none ∧ s = σ2)
  | 0, _, _, _, _, h => by cases h
  | n + 1, v1, σ, r, σ2, h => m_sum_117_H_ok (5 + 4 * n) (m_sum_117 n) (m_sum_117_lv n) (by omega) (by omega) h
theorem m_sum_117_top {d : Nat} (hd : 53 ≤ d) {v1 : Int32} {σ : Sg} {r : Unit} {σ2 : Sg} (h : m_sum_117 12 v1 σ = some (r, σ2)) : Ev MT CT d 209 [.ref 117, .int v1] σ (fun v s => v = none ∧ s = σ2) := Ev.le (by omega) (m_sum_117_lv 12 v1 σ r σ2 h)
theorem m_goesThrough_117_b139_ok {d : Nat} (hd : 53 ≤ d) {k102 : Int32 → Sg → Option (Unit × Sg)} (hk102 : ∀ (v1 : Int32) (σ : Sg) (r : Unit) (σ2 : Sg), k102 v1 σ = some (r, σ2) → Rc none (Ev MT CT d) sg210 (102, [(0, .ref 117), (1, .int v1)], [], σ) (fun v s => v = none ∧ s = σ2)) (v1 : Int32) (s1 : Int32) (s2 : Int32) (s3 : Int32) (σ : Sg) (r : Unit) (σ2 : Sg) (h : m_goesThrough_117_b139 k102 v1 s1 s2 s3 σ = some (r, σ2)) : Rc none (Ev MT CT d) sg210 (139, [(0, .ref 117), (1, .int v1)], [.int s3, .int s2, .int s1, .ref 134], σ) (fun v s => v = none ∧ s = σ2) := by
  unfold m_goesThrough_117_b139 at h
  obtain ⟨g1, h⟩ := gd_some h
  refine Rc.blk (c := [_]) (s2 := (102, [(1, .int (v1 + 1)), (0, .ref 117)], [], si σ 134 s1.toNatClampNeg ((s2 ||| s3) &&& 1))) 18 rfl rfl (conj_c (⟨rfl, inB_in g1⟩) (trivial)) ?_
  refine Rc.pick [1, 0] (lv2 := [(0, .ref 117), (1, .int (v1 + 1))]) rfl ?_
  exact hk102 _ _ _ _ h
theorem m_goesThrough_117_H102_ok {d : Nat} (hd : 53 ≤ d) {k102 : Int32 → Sg → Option (Unit × Sg)} (hk102 : ∀ (v1 : Int32) (σ : Sg) (r : Unit) (σ2 : Sg), k102 v1 σ = some (r, σ2) → Rc none (Ev MT CT d) sg210 (102, [(0, .ref 117), (1, .int v1)], [], σ) (fun v s => v = none ∧ s = σ2)) (v1 : Int32) (σ : Sg) (r : Unit) (σ2 : Sg) (h : m_goesThrough_117_H102 k102 v1 σ = some (r, σ2)) : Rc none (Ev MT CT d) sg210 (102, [(0, .ref 117), (1, .int v1)], [], σ) (fun v s => v = none ∧ s = σ2) := by
  unfold m_goesThrough_117_H102 at h
  refine Rc.blk (c := []) (s2 := (if 5 ≤ v1 then 147 else 107, [(0, .ref 117), (1, .int v1)], [], σ)) 14 rfl rfl (trivial) ?_
  by_cases c5 : 5 ≤ v1
  · rw [if_pos c5] at h
    refine Rc.ifp c5 ?_
    obtain ⟨rfl, rfl⟩ := some_pair h
    exact Rc.ret 19 rfl rfl rfl trivial ⟨rfl, rfl⟩
  · rw [if_neg c5] at h
    refine Rc.ifn c5 ?_
    obtain ⟨g1, h⟩ := gd_some h
    obtain ⟨g2, h⟩ := gd_some h
    obtain ⟨g3, h⟩ := gd_some h
    refine Rc.blk (c := [_, _, _, _, _, _, _, _]) (s2 := (if (σ.1 133 v1.toNatClampNeg) = (σ.1 133 (5 + v1).toNatClampNeg) then 138 else 134, [(0, .ref 117), (1, .int v1)], [.int (σ.1 134 (σ.1 117 25).toNatClampNeg), .int (σ.1 117 25), .ref 134], σ)) 15 rfl rfl (conj_c (rfl) (conj_c (rfl) (conj_c (⟨rfl, rfl⟩) (conj_c (⟨rfl, inB_in g1⟩) (conj_c (rfl) (conj_c (⟨rfl, inB_in g2⟩) (conj_c (rfl) (conj_c (⟨rfl, inB_in g3⟩) (trivial))))))))) ?_
    by_cases c4 : (σ.1 133 v1.toNatClampNeg) = (σ.1 133 (5 + v1).toNatClampNeg)
    · rw [if_pos c4] at h
      refine Rc.ifp c4 ?_
      refine Rc.blk (c := []) (s2 := (139, [(0, .ref 117), (1, .int v1)], [.int 0, .int (σ.1 134 (σ.1 117 25).toNatClampNeg), .int (σ.1 117 25), .ref 134], σ)) 17 rfl rfl (trivial) ?_
      exact m_goesThrough_117_b139_ok hd hk102 _ _ _ _ _ _ _ h
    · rw [if_neg c4] at h
      refine Rc.ifn c4 ?_
      refine Rc.blk (c := []) (s2 := (139, [(0, .ref 117), (1, .int v1)], [.int 1, .int (σ.1 134 (σ.1 117 25).toNatClampNeg), .int (σ.1 117 25), .ref 134], σ)) 16 rfl rfl (trivial) ?_
      exact m_goesThrough_117_b139_ok hd hk102 _ _ _ _ _ _ _ h
theorem m_goesThrough_117_L102_ok {d : Nat} (hd : 53 ≤ d) : ∀ (n : Nat) (v1 : Int32) (σ : Sg) (r : Unit) (σ2 : Sg), m_goesThrough_117_L102 n v1 σ = some (r, σ2) → Rc none (Ev MT CT d) sg210 (102, [(0, .ref 117), (1, .int v1)], [], σ) (fun v s => v = none ∧ s = σ2)
  | 0, _, _, _, _, h => by cases h
  | n + 1, v1, σ, r, σ2, h => m_goesThrough_117_H102_ok hd (m_goesThrough_117_L102_ok hd n) v1 σ r σ2 h
theorem m_goesThrough_117_b84_ok {d : Nat} (hd : 53 ≤ d) {k33 : Int32 → Sg → Option (Unit × Sg)} (hk33 : ∀ (v1 : Int32) (σ : Sg) (r : Unit) (σ2 : Sg), k33 v1 σ = some (r, σ2) → Rc none (Ev MT CT d) sg210 (33, [(0, .ref 117), (1, .int v1)], [], σ) (fun v s => v = none ∧ s = σ2)) (v1 : Int32) (σ : Sg) (r : Unit) (σ2 : Sg) (h : m_goesThrough_117_b84 k33 v1 σ = some (r, σ2)) : Rc none (Ev MT CT d) sg210 (84, [(0, .ref 117), (1, .int v1)], [], σ) (fun v s => v = none ∧ s = σ2) := by
  unfold m_goesThrough_117_b84 at h
  refine Rc.blk (c := [_, _, _]) (s2 := (33, [(1, .int (v1 + 1)), (0, .ref 117)], [], si σ 117 23 ((σ.1 117 23) + 1))) 12 rfl rfl (conj_c (rfl) (conj_c (rfl) (conj_c (rfl) (trivial)))) ?_
  refine Rc.pick [1, 0] (lv2 := [(0, .ref 117), (1, .int (v1 + 1))]) rfl ?_
  exact hk33 _ _ _ _ h
theorem m_goesThrough_117_H45_ok {d : Nat} (hd : 53 ≤ d) {k33 : Int32 → Sg → Option (Unit × Sg)} {k45 : Int32 → Int32 → Sg → Option (Unit × Sg)} (hk33 : ∀ (v1 : Int32) (σ : Sg) (r : Unit) (σ2 : Sg), k33 v1 σ = some (r, σ2) → Rc none (Ev MT CT d) sg210 (33, [(0, .ref 117), (1, .int v1)], [], σ) (fun v s => v = none ∧ s = σ2)) (hk45 : ∀ (v1 : Int32) (v2 : Int32) (σ : Sg) (r : Unit) (σ2 : Sg), k45 v1 v2 σ = some (r, σ2) → Rc none (Ev MT CT d) sg210 (45, [(0, .ref 117), (1, .int v1), (2, .int v2)], [], σ) (fun v s => v = none ∧ s = σ2)) (v1 : Int32) (v2 : Int32) (σ : Sg) (r : Unit) (σ2 : Sg) (h : m_goesThrough_117_H45 k33 k45 v1 v2 σ = some (r, σ2)) : Rc none (Ev MT CT d) sg210 (45, [(0, .ref 117), (1, .int v1), (2, .int v2)], [], σ) (fun v s => v = none ∧ s = σ2) := by
  unfold m_goesThrough_117_H45 at h
  refine Rc.blk (c := []) (s2 := (if 5 ≤ v2 then 72 else 50, [(0, .ref 117), (1, .int v1), (2, .int v2)], [], σ)) 8 rfl rfl (trivial) ?_
  by_cases c4 : 5 ≤ v2
  · rw [if_pos c4] at h
    refine Rc.ifp c4 ?_
    refine Rc.blk (c := []) (s2 := (if ¬ v1 = 0 then 84 else 76, [(0, .ref 117), (1, .int v1), (2, .int v2)], [], σ)) 10 rfl rfl (trivial) ?_
    by_cases c1 : v1 = 0
    · rw [if_pos c1] at h
      refine Rc.ifn (fun q => q c1) ?_
      refine Rc.blk (c := [_, _]) (s2 := (84, [(0, .ref 117), (1, .int v1), (2, .int v2)], [], si σ 117 25 (σ.1 117 23))) 11 rfl rfl (conj_c (rfl) (conj_c (rfl) (trivial))) ?_
      refine Rc.pick [0, 1] (lv2 := [(0, .ref 117), (1, .int v1)]) rfl ?_
      exact m_goesThrough_117_b84_ok hd hk33 _ _ _ _ h
    · rw [if_neg c1] at h
      refine Rc.ifp c1 ?_
      refine Rc.pick [0, 1] (lv2 := [(0, .ref 117), (1, .int v1)]) rfl ?_
      exact m_goesThrough_117_b84_ok hd hk33 _ _ _ _ h
  · rw [if_neg c4] at h
    refine Rc.ifn c4 ?_
    obtain ⟨g2, h⟩ := gd_some h
    obtain ⟨g3, h⟩ := gd_some h
    refine Rc.blk (c := [_, _, _, _]) (s2 := (45, [(2, .int (v2 + 1)), (0, .ref 117), (1, .int v1)], [], si σ 133 ((5 * v1) + v2).toNatClampNeg (σ.1 132 v2.toNatClampNeg))) 9 rfl rfl (conj_c (rfl) (conj_c (rfl) (conj_c (⟨rfl, inB_in g2⟩) (conj_c (⟨rfl, inB_in g3⟩) (trivial))))) ?_
    refine Rc.pick [1, 2, 0] (lv2 := [(0, .ref 117), (1, .int v1), (2, .int (v2 + 1))]) rfl ?_
    exact hk45 _ _ _ _ _ h
theorem m_goesThrough_117_L45_ok {d : Nat} (hd : 53 ≤ d) {k33 : Int32 → Sg → Option (Unit × Sg)} (hk33 : ∀ (v1 : Int32) (σ : Sg) (r : Unit) (σ2 : Sg), k33 v1 σ = some (r, σ2) → Rc none (Ev MT CT d) sg210 (33, [(0, .ref 117), (1, .int v1)], [], σ) (fun v s => v = none ∧ s = σ2)) : ∀ (n : Nat) (v1 : Int32) (v2 : Int32) (σ : Sg) (r : Unit) (σ2 : Sg), m_goesThrough_117_L45 k33 n v1 v2 σ = some (r, σ2) → Rc none (Ev MT CT d) sg210 (45, [(0, .ref 117), (1, .int v1), (2, .int v2)], [], σ) (fun v s => v = none ∧ s = σ2)
  | 0, _, _, _, _, _, h => by cases h
  | n + 1, v1, v2, σ, r, σ2, h => m_goesThrough_117_H45_ok hd hk33 (m_goesThrough_117_L45_ok hd hk33 n) v1 v2 σ r σ2 h
theorem m_goesThrough_117_H33_ok {d : Nat} (hd : 53 ≤ d) {k33 : Int32 → Sg → Option (Unit × Sg)} (hk33 : ∀ (v1 : Int32) (σ : Sg) (r : Unit) (σ2 : Sg), k33 v1 σ = some (r, σ2) → Rc none (Ev MT CT d) sg210 (33, [(0, .ref 117), (1, .int v1)], [], σ) (fun v s => v = none ∧ s = σ2)) (v1 : Int32) (σ : Sg) (r : Unit) (σ2 : Sg) (h : m_goesThrough_117_H33 k33 v1 σ = some (r, σ2)) : Rc none (Ev MT CT d) sg210 (33, [(0, .ref 117), (1, .int v1)], [], σ) (fun v s => v = none ∧ s = σ2) := by
  unfold m_goesThrough_117_H33 at h
  refine Rc.blk (c := []) (s2 := (if 2 ≤ v1 then 100 else 38, [(0, .ref 117), (1, .int v1)], [], σ)) 4 rfl rfl (trivial) ?_
  by_cases c2 : 2 ≤ v1
  · rw [if_pos c2] at h
    refine Rc.ifp c2 ?_
    refine Rc.blk (c := []) (s2 := (102, [(1, .int 0), (0, .ref 117)], [], σ)) 13 rfl rfl (trivial) ?_
    refine Rc.pick [1, 0] (lv2 := [(0, .ref 117), (1, .int 0)]) rfl ?_
    exact m_goesThrough_117_L102_ok hd fu _ _ _ _ h
  · rw [if_neg c2] at h
    refine Rc.ifn c2 ?_
    refine Rc.blk (c := []) (s2 := (40, [(0, .ref 117), (1, .int v1)], [.int 0, .ref 117], σ)) 5 rfl rfl (trivial) ?_
    obtain ⟨r1, σ1, hc, h⟩ := bd_some h
    refine Rc.call (Ev.mono d) (v := none) (as := [.ref 117, .int 0]) (r := []) 6 rfl rfl rfl rfl ⟨rfl, Nat.le_of_ble_eq_true rfl⟩ (m_sum_117_top (by omega) hc) ?_
    show Rc _ _ _ (43, [(0, .ref 117), (1, .int v1)], [], σ1) _
    refine Rc.blk (c := []) (s2 := (45, [(2, .int 0), (0, .ref 117), (1, .int v1)], [], σ1)) 7 rfl rfl (trivial) ?_
    refine Rc.pick [1, 2, 0] (lv2 := [(0, .ref 117), (1, .int v1), (2, .int 0)]) rfl ?_
    exact m_goesThrough_117_L45_ok hd hk33 fu _ _ _ _ _ h
theorem m_goesThrough_117_L33_ok {d : Nat} (hd : 53 ≤ d) : ∀ (n : Nat) (v1 : Int32) (σ : Sg) (r : Unit) (σ2 : Sg), m_goesThrough_117_L33 n v1 σ = some (r, σ2) → Rc none (Ev MT CT d) sg210 (33, [(0, .ref 117), (1, .int v1)], [], σ) (fun v s => v = none ∧ s = σ2)
  | 0, _, _, _, _, h => by cases h
  | n + 1, v1, σ, r, σ2, h => m_goesThrough_117_H33_ok hd (m_goesThrough_117_L33_ok hd n) v1 σ r σ2 h
theorem m_goesThrough_117_H2_ok {d : Nat} (hd : 53 ≤ d) {k2 : Int32 → Sg → Option (Unit × Sg)} (hk2 : ∀ (v1 : Int32) (σ : Sg) (r : Unit) (σ2 : Sg), k2 v1 σ = some (r, σ2) → Rc none (Ev MT CT d) sg210 (2, [(0, .ref 117), (1, .int v1)], [], σ) (fun v s => v = none ∧ s = σ2)) (v1 : Int32) (σ : Sg) (r : Unit) (σ2 : Sg) (h : m_goesThrough_117_H2 k2 v1 σ = some (r, σ2)) : Rc none (Ev MT CT d) sg210 (2, [(0, .ref 117), (1, .int v1)], [], σ) (fun v s => v = none ∧ s = σ2) := by
  unfold m_goesThrough_117_H2 at h
  refine Rc.blk (c := []) (s2 := (if 72 ≤ v1 then 21 else 8, [(0, .ref 117), (1, .int v1)], [], σ)) 1 rfl rfl (trivial) ?_
  by_cases c2 : 72 ≤ v1
  · rw [if_pos c2] at h
    refine Rc.ifp c2 ?_
    refine Rc.blk (c := [_, _]) (s2 := (33, [(1, .int 0), (0, .ref 117)], [], si (si σ 117 23 0) 117 24 0)) 3 rfl rfl (conj_c (rfl) (conj_c (rfl) (trivial))) ?_
    refine Rc.pick [1, 0] (lv2 := [(0, .ref 117), (1, .int 0)]) rfl ?_
    exact m_goesThrough_117_L33_ok hd fu _ _ _ _ h
  · rw [if_neg c2] at h
    refine Rc.ifn c2 ?_
    obtain ⟨g1, h⟩ := gd_some h
    refine Rc.blk (c := [_, _]) (s2 := (2, [(1, .int (v1 + 1)), (0, .ref 117)], [], si σ 134 v1.toNatClampNeg (0 &&& 1))) 2 rfl rfl (conj_c (rfl) (conj_c (⟨rfl, inB_in g1⟩) (trivial))) ?_
    refine Rc.pick [1, 0] (lv2 := [(0, .ref 117), (1, .int (v1 + 1))]) rfl ?_
    exact hk2 _ _ _ _ h
theorem m_goesThrough_117_L2_ok {d : Nat} (hd : 53 ≤ d) : ∀ (n : Nat) (v1 : Int32) (σ : Sg) (r : Unit) (σ2 : Sg), m_goesThrough_117_L2 n v1 σ = some (r, σ2) → Rc none (Ev MT CT d) sg210 (2, [(0, .ref 117), (1, .int v1)], [], σ) (fun v s => v = none ∧ s = σ2)
  | 0, _, _, _, _, h => by cases h
  | n + 1, v1, σ, r, σ2, h => m_goesThrough_117_H2_ok hd (m_goesThrough_117_L2_ok hd n) v1 σ r σ2 h
theorem m_goesThrough_117_ok {d : Nat} (hd : 54 ≤ d) {σ : Sg} {r : Unit} {σ2 : Sg} (h : m_goesThrough_117 σ = some (r, σ2)) : Ev MT CT d 210 [.ref 117] σ (fun v s => v = none ∧ s = σ2) := by
  obtain ⟨d, rfl⟩ : ∃ e, d = e + 1 := ⟨d - 1, by omega⟩
  refine ⟨Nat.le_of_ble_eq_true rfl, ?_⟩
  show Rc none (Ev MT CT d) sg210 (0, [(0, .ref 117)], [], σ) _
  unfold m_goesThrough_117 at h
  have hd : 53 ≤ d := by omega
  refine Rc.blk (c := []) (s2 := (2, [(1, .int 0), (0, .ref 117)], [], σ)) 0 rfl rfl (trivial) ?_
  refine Rc.pick [1, 0] (lv2 := [(0, .ref 117), (1, .int 0)]) rfl ?_
  exact m_goesThrough_117_L2_ok hd fu _ _ _ _ h
theorem m_wrong_117_b114_ok {d : Nat} (hd : 54 ≤ d) (s0 : Int32) (σ : Sg) (r : Int32) (σ2 : Sg) (h : m_wrong_117_b114 s0 σ = some (r, σ2)) : Rc none (Ev MT CT d) sg211 (114, [], [.int s0], σ) (fun v s => v = some (.int r) ∧ s = σ2) := by
  unfold m_wrong_117_b114 at h
  obtain ⟨rfl, rfl⟩ := some_pair h
  exact Rc.ret 26 rfl rfl rfl trivial ⟨rfl, rfl⟩
theorem m_wrong_117_b86_ok {d : Nat} (hd : 54 ≤ d) {k47 : Int32 → Int32 → Int32 → Int32 → Sg → Option (Int32 × Sg)} (hk47 : ∀ (v1 : Int32) (v2 : Int32) (v3 : Int32) (v4 : Int32) (σ : Sg) (r : Int32) (σ2 : Sg), k47 v1 v2 v3 v4 σ = some (r, σ2) → Rc none (Ev MT CT d) sg211 (47, [(0, .ref 117), (1, .int v1), (2, .int v2), (3, .int v3), (4, .int v4)], [], σ) (fun v s => v = some (.int r) ∧ s = σ2)) (v1 : Int32) (v2 : Int32) (v4 : Int32) (s0 : Int32) (σ : Sg) (r : Int32) (σ2 : Sg) (h : m_wrong_117_b86 k47 v1 v2 v4 s0 σ = some (r, σ2)) : Rc none (Ev MT CT d) sg211 (86, [(0, .ref 117), (1, .int v1), (2, .int v2), (4, .int v4)], [.int s0], σ) (fun v s => v = some (.int r) ∧ s = σ2) := by
  unfold m_wrong_117_b86 at h
  refine Rc.blk (c := []) (s2 := (47, [(4, .int (v4 + (-1))), (3, .int s0), (0, .ref 117), (1, .int v1), (2, .int v2)], [], σ)) 20 rfl rfl (trivial) ?_
  refine Rc.pick [2, 3, 4, 1, 0] (lv2 := [(0, .ref 117), (1, .int v1), (2, .int v2), (3, .int s0), (4, .int (v4 + (-1)))]) rfl ?_
  exact hk47 _ _ _ _ _ _ _ h
theorem m_wrong_117_b68_ok {d : Nat} (hd : 54 ≤ d) {k47 : Int32 → Int32 → Int32 → Int32 → Sg → Option (Int32 × Sg)} (hk47 : ∀ (v1 : Int32) (v2 : Int32) (v3 : Int32) (v4 : Int32) (σ : Sg) (r : Int32) (σ2 : Sg), k47 v1 v2 v3 v4 σ = some (r, σ2) → Rc none (Ev MT CT d) sg211 (47, [(0, .ref 117), (1, .int v1), (2, .int v2), (3, .int v3), (4, .int v4)], [], σ) (fun v s => v = some (.int r) ∧ s = σ2)) (v1 : Int32) (v3 : Int32) (v4 : Int32) (s0 : Int32) (s1 : Int32) (σ : Sg) (r : Int32) (σ2 : Sg) (h : m_wrong_117_b68 k47 v1 v3 v4 s0 s1 σ = some (r, σ2)) : Rc none (Ev MT CT d) sg211 (68, [(0, .ref 117), (1, .int v1), (3, .int v3), (4, .int v4)], [.int s1, .int s0], σ) (fun v s => v = some (.int r) ∧ s = σ2) := by
  unfold m_wrong_117_b68 at h
  obtain ⟨g1, h⟩ := gd_some h
  refine Rc.blk (c := [_, _]) (s2 := (if (σ.1 134 v4.toNatClampNeg) = 0 then 85 else 80, [(2, .int (s0 + s1)), (0, .ref 117), (1, .int v1), (3, .int v3), (4, .int v4)], [], σ)) 17 rfl rfl (conj_c (rfl) (conj_c (⟨rfl, inB_in g1⟩) (trivial))) ?_
  by_cases c2 : (σ.1 134 v4.toNatClampNeg) = 0
  · rw [if_pos c2] at h
    refine Rc.ifp c2 ?_
    refine Rc.blk (c := []) (s2 := (86, [(2, .int (s0 + s1)), (0, .ref 117), (1, .int v1), (3, .int v3), (4, .int v4)], [.int v3], σ)) 19 rfl rfl (trivial) ?_
    refine Rc.pick [1, 2, 0, 4] (lv2 := [(0, .ref 117), (1, .int v1), (2, .int (s0 + s1)), (4, .int v4)]) rfl ?_
    exact m_wrong_117_b86_ok hd hk47 _ _ _ _ _ _ _ h
  · rw [if_neg c2] at h
    refine Rc.ifn c2 ?_
    refine Rc.blk (c := []) (s2 := (86, [(2, .int (s0 + s1)), (0, .ref 117), (1, .int v1), (3, .int v3), (4, .int v4)], [.int v4], σ)) 18 rfl rfl (trivial) ?_
    refine Rc.pick [1, 2, 0, 4] (lv2 := [(0, .ref 117), (1, .int v1), (2, .int (s0 + s1)), (4, .int v4)]) rfl ?_
    exact m_wrong_117_b86_ok hd hk47 _ _ _ _ _ _ _ h
theorem m_wrong_117_H47_ok {d : Nat} (hd : 54 ≤ d) {k47 : Int32 → Int32 → Int32 → Int32 → Sg → Option (Int32 × Sg)} (hk47 : ∀ (v1 : Int32) (v2 : Int32) (v3 : Int32) (v4 : Int32) (σ : Sg) (r : Int32) (σ2 : Sg), k47 v1 v2 v3 v4 σ = some (r, σ2) → Rc none (Ev MT CT d) sg211 (47, [(0, .ref 117), (1, .int v1), (2, .int v2), (3, .int v3), (4, .int v4)], [], σ) (fun v s => v = some (.int r) ∧ s = σ2)) (v1 : Int32) (v2 : Int32) (v3 : Int32) (v4 : Int32) (σ : Sg) (r : Int32) (σ2 : Sg) (h : m_wrong_117_H47 k47 v1 v2 v3 v4 σ = some (r, σ2)) : Rc none (Ev MT CT d) sg211 (47, [(0, .ref 117), (1, .int v1), (2, .int v2), (3, .int v3), (4, .int v4)], [], σ) (fun v s => v = some (.int r) ∧ s = σ2) := by
  unfold m_wrong_117_H47 at h
  refine Rc.blk (c := []) (s2 := (if v4 < 0 then 93 else 52, [(0, .ref 117), (1, .int v1), (2, .int v2), (3, .int v3), (4, .int v4)], [], σ)) 13 rfl rfl (trivial) ?_
  by_cases c5 : v4 < 0
  · rw [if_pos c5] at h
    refine Rc.ifp c5 ?_
    refine Rc.blk (c := []) (s2 := (if ¬ v1 = 0 then 101 else 97, [(0, .ref 117), (1, .int v1), (2, .int v2), (3, .int v3), (4, .int v4)], [], σ)) 21 rfl rfl (trivial) ?_
    by_cases c2 : v1 = 0
    · rw [if_pos c2] at h
      refine Rc.ifn (fun q => q c2) ?_
      refine Rc.blk (c := []) (s2 := (114, [(0, .ref 117), (1, .int v1), (2, .int v2), (3, .int v3), (4, .int v4)], [.int v3], σ)) 22 rfl rfl (trivial) ?_
      refine Rc.pick [] (lv2 := []) rfl ?_
      exact m_wrong_117_b114_ok hd _ _ _ _ h
    · rw [if_neg c2] at h
      refine Rc.ifp c2 ?_
      refine Rc.blk (c := []) (s2 := (if ¬ v1 = 1 then 110 else 106, [(0, .ref 117), (1, .int v1), (2, .int v2), (3, .int v3), (4, .int v4)], [], σ)) 23 rfl rfl (trivial) ?_
      by_cases c1 : v1 = 1
      · rw [if_pos c1] at h
        refine Rc.ifn (fun q => q c1) ?_
        refine Rc.blk (c := []) (s2 := (114, [(0, .ref 117), (1, .int v1), (2, .int v2), (3, .int v3), (4, .int v4)], [.int v2], σ)) 24 rfl rfl (trivial) ?_
        refine Rc.pick [] (lv2 := []) rfl ?_
        exact m_wrong_117_b114_ok hd _ _ _ _ h
      · rw [if_neg c1] at h
        refine Rc.ifp c1 ?_
        refine Rc.blk (c := [_]) (s2 := (114, [(0, .ref 117), (1, .int v1), (2, .int v2), (3, .int v3), (4, .int v4)], [.int (σ.1 117 24)], σ)) 25 rfl rfl (conj_c (rfl) (trivial)) ?_
        refine Rc.pick [] (lv2 := []) rfl ?_
        exact m_wrong_117_b114_ok hd _ _ _ _ h
  · rw [if_neg c5] at h
    refine Rc.ifn c5 ?_
    obtain ⟨g3, h⟩ := gd_some h
    refine Rc.blk (c := [_, _]) (s2 := (if (σ.1 134 v4.toNatClampNeg) = 0 then 67 else 63, [(0, .ref 117), (1, .int v1), (2, .int v2), (3, .int v3), (4, .int v4)], [.int v2], σ)) 14 rfl rfl (conj_c (rfl) (conj_c (⟨rfl, inB_in g3⟩) (trivial))) ?_
    by_cases c4 : (σ.1 134 v4.toNatClampNeg) = 0
    · rw [if_pos c4] at h
      refine Rc.ifp c4 ?_
      refine Rc.blk (c := []) (s2 := (68, [(0, .ref 117), (1, .int v1), (2, .int v2), (3, .int v3), (4, .int v4)], [.int 0, .int v2], σ)) 16 rfl rfl (trivial) ?_
      refine Rc.pick [0, 1, 3, 4] (lv2 := [(0, .ref 117), (1, .int v1), (3, .int v3), (4, .int v4)]) rfl ?_
      exact m_wrong_117_b68_ok hd hk47 _ _ _ _ _ _ _ _ h
    · rw [if_neg c4] at h
      refine Rc.ifn c4 ?_
      refine Rc.blk (c := []) (s2 := (68, [(0, .ref 117), (1, .int v1), (2, .int v2), (3, .int v3), (4, .int v4)], [.int 1, .int v2], σ)) 15 rfl rfl (trivial) ?_
      refine Rc.pick [0, 1, 3, 4] (lv2 := [(0, .ref 117), (1, .int v1), (3, .int v3), (4, .int v4)]) rfl ?_
      exact m_wrong_117_b68_ok hd hk47 _ _ _ _ _ _ _ _ h
theorem m_wrong_117_L47_ok {d : Nat} (hd : 54 ≤ d) : ∀ (n : Nat) (v1 : Int32) (v2 : Int32) (v3 : Int32) (v4 : Int32) (σ : Sg) (r : Int32) (σ2 : Sg), m_wrong_117_L47 n v1 v2 v3 v4 σ = some (r, σ2) → Rc none (Ev MT CT d) sg211 (47, [(0, .ref 117), (1, .int v1), (2, .int v2), (3, .int v3), (4, .int v4)], [], σ) (fun v s => v = some (.int r) ∧ s = σ2)
  | 0, _, _, _, _, _, _, _, h => by cases h
  | n + 1, v1, v2, v3, v4, σ, r, σ2, h => m_wrong_117_H47_ok hd (m_wrong_117_L47_ok hd n) v1 v2 v3 v4 σ r σ2 h
theorem m_wrong_117_ok {d : Nat} (hd : 55 ≤ d) {v1 : Int32} {σ : Sg} {r : Int32} {σ2 : Sg} (h : m_wrong_117 v1 σ = some (r, σ2)) : Ev MT CT d 211 [.ref 117, .int v1] σ (fun v s => v = some (.int r) ∧ s = σ2) := by
  obtain ⟨d, rfl⟩ : ∃ e, d = e + 1 := ⟨d - 1, by omega⟩
  refine ⟨Nat.le_of_ble_eq_true rfl, ?_⟩
  show Rc none (Ev MT CT d) sg211 (0, [(0, .ref 117), (1, .int v1)], [], σ) _
  unfold m_wrong_117 at h
  have hd : 54 ≤ d := by omega
  refine Rc.blk (c := []) (s2 := (6, [(0, .ref 117), (1, .int v1)], [.long 2, .long 0, .long v1.toInt64], σ)) 0 rfl rfl (trivial) ?_
  obtain ⟨r1, σ1, hc, h⟩ := bd_some h
  refine Rc.call (Ev.mono d) (v := some (.int r1)) (as := [.long v1.toInt64, .long 0, .long 2]) (r := []) 1 rfl rfl rfl rfl (Nat.le_of_ble_eq_true rfl) (m_isIn_s_ok (by omega) hc) ?_
  show Rc _ _ _ (9, [(0, .ref 117), (1, .int v1)], [.int r1], σ1) _
  refine Rc.blk (c := []) (s2 := (if ¬ r1 = 0 then 18 else 12, [(0, .ref 117), (1, .int v1)], [], σ1)) 2 rfl rfl (trivial) ?_
  by_cases c6 : r1 = 0
  · rw [if_pos c6] at h
    refine Rc.ifn (fun q => q c6) ?_
    refine Rc.blk (c := []) (s2 := (14, [(0, .ref 117), (1, .int v1)], [.int 2, .ref 117], σ1)) 3 rfl rfl (trivial) ?_
    obtain ⟨r5, σ5, hc, h⟩ := bd_some h
    refine Rc.call (Ev.mono d) (v := some (.int r5)) (as := [.ref 117, .int 2]) (r := []) 4 rfl rfl rfl rfl ⟨rfl, Nat.le_of_ble_eq_true rfl⟩ (m_refuse_117_ok (by omega) hc) ?_
    show Rc _ _ _ (17, [(0, .ref 117), (1, .int v1)], [.int r5], σ5) _
    obtain ⟨rfl, rfl⟩ := some_pair h
    exact Rc.ret 5 rfl rfl rfl trivial ⟨rfl, rfl⟩
  · rw [if_neg c6] at h
    refine Rc.ifp c6 ?_
    refine Rc.blk (c := [_, _]) (s2 := (if ¬ (σ1.1 118 66) = 0 then 34 else 28, [(0, .ref 117), (1, .int v1)], [], σ1)) 6 rfl rfl (conj_c (rfl) (conj_c (⟨rfl, inB_in (by decide)⟩) (trivial))) ?_
    by_cases c4 : (σ1.1 118 66) = 0
    · rw [if_pos c4] at h
      refine Rc.ifn (fun q => q c4) ?_
      refine Rc.blk (c := []) (s2 := (30, [(0, .ref 117), (1, .int v1)], [.int 3, .ref 117], σ1)) 7 rfl rfl (trivial) ?_
      obtain ⟨r3, σ3, hc, h⟩ := bd_some h
      refine Rc.call (Ev.mono d) (v := some (.int r3)) (as := [.ref 117, .int 3]) (r := []) 8 rfl rfl rfl rfl ⟨rfl, Nat.le_of_ble_eq_true rfl⟩ (m_refuse_117_ok (by omega) hc) ?_
      show Rc _ _ _ (33, [(0, .ref 117), (1, .int v1)], [.int r3], σ3) _
      obtain ⟨rfl, rfl⟩ := some_pair h
      exact Rc.ret 9 rfl rfl rfl trivial ⟨rfl, rfl⟩
    · rw [if_neg c4] at h
      refine Rc.ifp c4 ?_
      refine Rc.blk (c := []) (s2 := (35, [(0, .ref 117), (1, .int v1)], [.ref 117], σ1)) 10 rfl rfl (trivial) ?_
      obtain ⟨r2, σ2, hc, h⟩ := bd_some h
      refine Rc.call (Ev.mono d) (v := none) (as := [.ref 117]) (r := []) 11 rfl rfl rfl rfl ⟨rfl, Nat.le_of_ble_eq_true rfl⟩ (m_goesThrough_117_ok (by omega) hc) ?_
      show Rc _ _ _ (38, [(0, .ref 117), (1, .int v1)], [], σ2) _
      refine Rc.blk (c := []) (s2 := (47, [(4, .int 71), (3, .int (-9)), (2, .int 0), (0, .ref 117), (1, .int v1)], [], σ2)) 12 rfl rfl (trivial) ?_
      refine Rc.pick [3, 4, 2, 1, 0] (lv2 := [(0, .ref 117), (1, .int v1), (2, .int 0), (3, .int (-9)), (4, .int 71)]) rfl ?_
      exact m_wrong_117_L47_ok hd fu _ _ _ _ _ _ _ h
theorem m_sides_117_b84_ok {d : Nat} (hd : 54 ≤ d) (s0 : Int32) (σ : Sg) (r : Int32) (σ2 : Sg) (h : m_sides_117_b84 s0 σ = some (r, σ2)) : Rc none (Ev MT CT d) sg212 (84, [], [.int s0], σ) (fun v s => v = some (.int r) ∧ s = σ2) := by
  unfold m_sides_117_b84 at h
  obtain ⟨rfl, rfl⟩ := some_pair h
  exact Rc.ret 21 rfl rfl rfl trivial ⟨rfl, rfl⟩
theorem m_sides_117_ok {d : Nat} (hd : 55 ≤ d) {v1 : Int32} {v2 : Int32} {σ : Sg} {r : Int32} {σ2 : Sg} (h : m_sides_117 v1 v2 σ = some (r, σ2)) : Ev MT CT d 212 [.ref 117, .int v1, .int v2] σ (fun v s => v = some (.int r) ∧ s = σ2) := by
  obtain ⟨d, rfl⟩ : ∃ e, d = e + 1 := ⟨d - 1, by omega⟩
  refine ⟨Nat.le_of_ble_eq_true rfl, ?_⟩
  show Rc none (Ev MT CT d) sg212 (0, [(0, .ref 117), (1, .int v1), (2, .int v2)], [], σ) _
  unfold m_sides_117 at h
  have hd : 54 ≤ d := by omega
  refine Rc.blk (c := []) (s2 := (1, [(0, .ref 117), (1, .int v1), (2, .int v2)], [.int v2], σ)) 0 rfl rfl (trivial) ?_
  obtain ⟨r1, σ1, hc, h⟩ := bd_some h
  refine Rc.call (Ev.mono d) (v := some (.int r1)) (as := [.int v2]) (r := []) 1 rfl rfl rfl rfl (Nat.le_of_ble_eq_true rfl) (m_isUnit_s_ok (by omega) hc) ?_
  show Rc _ _ _ (4, [(0, .ref 117), (1, .int v1), (2, .int v2)], [.int r1], σ1) _
  refine Rc.blk (c := []) (s2 := (if ¬ r1 = 0 then 13 else 7, [(0, .ref 117), (1, .int v1), (2, .int v2)], [], σ1)) 2 rfl rfl (trivial) ?_
  by_cases c13 : r1 = 0
  · rw [if_pos c13] at h
    refine Rc.ifn (fun q => q c13) ?_
    refine Rc.blk (c := []) (s2 := (9, [(0, .ref 117), (1, .int v1), (2, .int v2)], [.int 1, .ref 117], σ1)) 3 rfl rfl (trivial) ?_
    obtain ⟨r12, σ12, hc, h⟩ := bd_some h
    refine Rc.call (Ev.mono d) (v := some (.int r12)) (as := [.ref 117, .int 1]) (r := []) 4 rfl rfl rfl rfl ⟨rfl, Nat.le_of_ble_eq_true rfl⟩ (m_refuseFar_117_ok (by omega) hc) ?_
    show Rc _ _ _ (12, [(0, .ref 117), (1, .int v1), (2, .int v2)], [.int r12], σ12) _
    obtain ⟨rfl, rfl⟩ := some_pair h
    exact Rc.ret 5 rfl rfl rfl trivial ⟨rfl, rfl⟩
  · rw [if_neg c13] at h
    refine Rc.ifp c13 ?_
    refine Rc.blk (c := []) (s2 := (19, [(0, .ref 117), (1, .int v1), (2, .int v2)], [.long 2, .long 0, .long v1.toInt64], σ1)) 6 rfl rfl (trivial) ?_
    obtain ⟨r2, σ2, hc, h⟩ := bd_some h
    refine Rc.call (Ev.mono d) (v := some (.int r2)) (as := [.long v1.toInt64, .long 0, .long 2]) (r := []) 7 rfl rfl rfl rfl (Nat.le_of_ble_eq_true rfl) (m_isIn_s_ok (by omega) hc) ?_
    show Rc _ _ _ (22, [(0, .ref 117), (1, .int v1), (2, .int v2)], [.int r2], σ2) _
    refine Rc.blk (c := []) (s2 := (if ¬ r2 = 0 then 31 else 25, [(0, .ref 117), (1, .int v1), (2, .int v2)], [], σ2)) 8 rfl rfl (trivial) ?_
    by_cases c11 : r2 = 0
    · rw [if_pos c11] at h
      refine Rc.ifn (fun q => q c11) ?_
      refine Rc.blk (c := []) (s2 := (27, [(0, .ref 117), (1, .int v1), (2, .int v2)], [.int 2, .ref 117], σ2)) 9 rfl rfl (trivial) ?_
      obtain ⟨r10, σ10, hc, h⟩ := bd_some h
      refine Rc.call (Ev.mono d) (v := some (.int r10)) (as := [.ref 117, .int 2]) (r := []) 10 rfl rfl rfl rfl ⟨rfl, Nat.le_of_ble_eq_true rfl⟩ (m_refuseFar_117_ok (by omega) hc) ?_
      show Rc _ _ _ (30, [(0, .ref 117), (1, .int v1), (2, .int v2)], [.int r10], σ10) _
      obtain ⟨rfl, rfl⟩ := some_pair h
      exact Rc.ret 11 rfl rfl rfl trivial ⟨rfl, rfl⟩
    · rw [if_neg c11] at h
      refine Rc.ifp c11 ?_
      refine Rc.blk (c := [_, _]) (s2 := (if ¬ (σ2.1 118 66) = 0 then 47 else 41, [(0, .ref 117), (1, .int v1), (2, .int v2)], [], σ2)) 12 rfl rfl (conj_c (rfl) (conj_c (⟨rfl, inB_in (by decide)⟩) (trivial))) ?_
      by_cases c9 : (σ2.1 118 66) = 0
      · rw [if_pos c9] at h
        refine Rc.ifn (fun q => q c9) ?_
        refine Rc.blk (c := []) (s2 := (43, [(0, .ref 117), (1, .int v1), (2, .int v2)], [.int 3, .ref 117], σ2)) 13 rfl rfl (trivial) ?_
        obtain ⟨r8, σ8, hc, h⟩ := bd_some h
        refine Rc.call (Ev.mono d) (v := some (.int r8)) (as := [.ref 117, .int 3]) (r := []) 14 rfl rfl rfl rfl ⟨rfl, Nat.le_of_ble_eq_true rfl⟩ (m_refuseFar_117_ok (by omega) hc) ?_
        show Rc _ _ _ (46, [(0, .ref 117), (1, .int v1), (2, .int v2)], [.int r8], σ8) _
        obtain ⟨rfl, rfl⟩ := some_pair h
        exact Rc.ret 15 rfl rfl rfl trivial ⟨rfl, rfl⟩
      · rw [if_neg c9] at h
        refine Rc.ifp c9 ?_
        refine Rc.blk (c := []) (s2 := (48, [(0, .ref 117), (1, .int v1), (2, .int v2)], [.ref 117], σ2)) 16 rfl rfl (trivial) ?_
        obtain ⟨r3, σ3, hc, h⟩ := bd_some h
        refine Rc.call (Ev.mono d) (v := none) (as := [.ref 117]) (r := []) 17 rfl rfl rfl rfl ⟨rfl, Nat.le_of_ble_eq_true rfl⟩ (m_goesThrough_117_ok (by omega) hc) ?_
        show Rc _ _ _ (51, [(0, .ref 117), (1, .int v1), (2, .int v2)], [], σ3) _
        refine Rc.blk (c := []) (s2 := (if 2 ≤ v1 then 69 else 56, [(0, .ref 117), (1, .int v1), (2, .int v2)], [], σ3)) 18 rfl rfl (trivial) ?_
        by_cases c7 : 2 ≤ v1
        · rw [if_pos c7] at h
          refine Rc.ifp c7 ?_
          obtain ⟨g4, h⟩ := gd_some h
          obtain ⟨g5, h⟩ := gd_some h
          refine Rc.blk (c := [_, _, _, _]) (s2 := (84, [(0, .ref 117), (1, .int v1), (2, .int v2)], [.int ((σ3.1 133 v2.toNatClampNeg) - (σ3.1 133 (5 + v2).toNatClampNeg))], σ3)) 20 rfl rfl (conj_c (rfl) (conj_c (⟨rfl, inB_in g4⟩) (conj_c (rfl) (conj_c (⟨rfl, inB_in g5⟩) (trivial))))) ?_
          refine Rc.pick [] (lv2 := []) rfl ?_
          exact m_sides_117_b84_ok hd _ _ _ _ h
        · rw [if_neg c7] at h
          refine Rc.ifn c7 ?_
          obtain ⟨g6, h⟩ := gd_some h
          refine Rc.blk (c := [_, _]) (s2 := (84, [(0, .ref 117), (1, .int v1), (2, .int v2)], [.int (σ3.1 133 ((5 * v1) + v2).toNatClampNeg)], σ3)) 19 rfl rfl (conj_c (rfl) (conj_c (⟨rfl, inB_in g6⟩) (trivial))) ?_
          refine Rc.pick [] (lv2 := []) rfl ?_
          exact m_sides_117_b84_ok hd _ _ _ _ h
theorem m_mend_117_H33_ok {d : Nat} (hd : 54 ≤ d) {k33 : Int32 → Int32 → Sg → Option (Int32 × Sg)} (hk33 : ∀ (v1 : Int32) (v2 : Int32) (σ : Sg) (r : Int32) (σ2 : Sg), k33 v1 v2 σ = some (r, σ2) → Rc none (Ev MT CT d) sg213 (33, [(0, .ref 117), (1, .int v1), (2, .int v2)], [], σ) (fun v s => v = some (.int r) ∧ s = σ2)) (v1 : Int32) (v2 : Int32) (σ : Sg) (r : Int32) (σ2 : Sg) (h : m_mend_117_H33 k33 v1 v2 σ = some (r, σ2)) : Rc none (Ev MT CT d) sg213 (33, [(0, .ref 117), (1, .int v1), (2, .int v2)], [], σ) (fun v s => v = some (.int r) ∧ s = σ2) := by
  unfold m_mend_117_H33 at h
  refine Rc.blk (c := []) (s2 := (if 5 ≤ v2 then 65 else 38, [(0, .ref 117), (1, .int v1), (2, .int v2)], [], σ)) 11 rfl rfl (trivial) ?_
  by_cases c5 : 5 ≤ v2
  · rw [if_pos c5] at h
    refine Rc.ifp c5 ?_
    refine Rc.blk (c := []) (s2 := (67, [(0, .ref 117), (1, .int v1), (2, .int v2)], [.int v1, .ref 117], σ)) 13 rfl rfl (trivial) ?_
    obtain ⟨r1, σ1, hc, h⟩ := bd_some h
    refine Rc.call (Ev.mono d) (v := some (.int r1)) (as := [.ref 117, .int v1]) (r := []) 14 rfl rfl rfl rfl ⟨rfl, Nat.le_of_ble_eq_true rfl⟩ (m_fewestOf_117_ok (by omega) hc) ?_
    show Rc _ _ _ (70, [(0, .ref 117), (1, .int v1), (2, .int v2)], [.int r1], σ1) _
    obtain ⟨rfl, rfl⟩ := some_pair h
    exact Rc.ret 15 rfl rfl rfl trivial ⟨rfl, rfl⟩
  · rw [if_neg c5] at h
    refine Rc.ifn c5 ?_
    obtain ⟨g2, h⟩ := gd_some h
    obtain ⟨g3, h⟩ := gd_some h
    obtain ⟨g4, h⟩ := gd_some h
    refine Rc.blk (c := [_, _, _, _, _, _]) (s2 := (33, [(2, .int (v2 + 1)), (0, .ref 117), (1, .int v1)], [], si σ 130 v2.toNatClampNeg ((σ.1 133 v2.toNatClampNeg) - (σ.1 133 (5 + v2).toNatClampNeg)))) 12 rfl rfl (conj_c (rfl) (conj_c (rfl) (conj_c (⟨rfl, inB_in g2⟩) (conj_c (rfl) (conj_c (⟨rfl, inB_in g3⟩) (conj_c (⟨rfl, inB_in g4⟩) (trivial))))))) ?_
    refine Rc.pick [1, 2, 0] (lv2 := [(0, .ref 117), (1, .int v1), (2, .int (v2 + 1))]) rfl ?_
    exact hk33 _ _ _ _ _ h
theorem m_mend_117_L33_ok {d : Nat} (hd : 54 ≤ d) : ∀ (n : Nat) (v1 : Int32) (v2 : Int32) (σ : Sg) (r : Int32) (σ2 : Sg), m_mend_117_L33 n v1 v2 σ = some (r, σ2) → Rc none (Ev MT CT d) sg213 (33, [(0, .ref 117), (1, .int v1), (2, .int v2)], [], σ) (fun v s => v = some (.int r) ∧ s = σ2)
  | 0, _, _, _, _, _, h => by cases h
  | n + 1, v1, v2, σ, r, σ2, h => m_mend_117_H33_ok hd (m_mend_117_L33_ok hd n) v1 v2 σ r σ2 h
theorem m_mend_117_ok {d : Nat} (hd : 55 ≤ d) {v1 : Int32} {σ : Sg} {r : Int32} {σ2 : Sg} (h : m_mend_117 v1 σ = some (r, σ2)) : Ev MT CT d 213 [.ref 117, .int v1] σ (fun v s => v = some (.int r) ∧ s = σ2) := by
  obtain ⟨d, rfl⟩ : ∃ e, d = e + 1 := ⟨d - 1, by omega⟩
  refine ⟨Nat.le_of_ble_eq_true rfl, ?_⟩
  show Rc none (Ev MT CT d) sg213 (0, [(0, .ref 117), (1, .int v1)], [], σ) _
  unfold m_mend_117 at h
  have hd : 54 ≤ d := by omega
  refine Rc.blk (c := []) (s2 := (if (-1) ≤ v1 then 11 else 5, [(0, .ref 117), (1, .int v1)], [], σ)) 0 rfl rfl (trivial) ?_
  by_cases c5 : (-1) ≤ v1
  · rw [if_pos c5] at h
    refine Rc.ifp c5 ?_
    refine Rc.blk (c := [_, _]) (s2 := (if ¬ (σ.1 118 66) = 0 then 27 else 21, [(0, .ref 117), (1, .int v1)], [], σ)) 4 rfl rfl (conj_c (rfl) (conj_c (⟨rfl, inB_in (by decide)⟩) (trivial))) ?_
    by_cases c3 : (σ.1 118 66) = 0
    · rw [if_pos c3] at h
      refine Rc.ifn (fun q => q c3) ?_
      refine Rc.blk (c := []) (s2 := (23, [(0, .ref 117), (1, .int v1)], [.int 3, .ref 117], σ)) 5 rfl rfl (trivial) ?_
      obtain ⟨r2, σ2, hc, h⟩ := bd_some h
      refine Rc.call (Ev.mono d) (v := some (.int r2)) (as := [.ref 117, .int 3]) (r := []) 6 rfl rfl rfl rfl ⟨rfl, Nat.le_of_ble_eq_true rfl⟩ (m_refuse_117_ok (by omega) hc) ?_
      show Rc _ _ _ (26, [(0, .ref 117), (1, .int v1)], [.int r2], σ2) _
      obtain ⟨rfl, rfl⟩ := some_pair h
      exact Rc.ret 7 rfl rfl rfl trivial ⟨rfl, rfl⟩
    · rw [if_neg c3] at h
      refine Rc.ifp c3 ?_
      refine Rc.blk (c := []) (s2 := (28, [(0, .ref 117), (1, .int v1)], [.ref 117], σ)) 8 rfl rfl (trivial) ?_
      obtain ⟨r1, σ1, hc, h⟩ := bd_some h
      refine Rc.call (Ev.mono d) (v := none) (as := [.ref 117]) (r := []) 9 rfl rfl rfl rfl ⟨rfl, Nat.le_of_ble_eq_true rfl⟩ (m_goesThrough_117_ok (by omega) hc) ?_
      show Rc _ _ _ (31, [(0, .ref 117), (1, .int v1)], [], σ1) _
      refine Rc.blk (c := []) (s2 := (33, [(2, .int 0), (0, .ref 117), (1, .int v1)], [], σ1)) 10 rfl rfl (trivial) ?_
      refine Rc.pick [1, 2, 0] (lv2 := [(0, .ref 117), (1, .int v1), (2, .int 0)]) rfl ?_
      exact m_mend_117_L33_ok hd fu _ _ _ _ _ h
  · rw [if_neg c5] at h
    refine Rc.ifn c5 ?_
    refine Rc.blk (c := []) (s2 := (7, [(0, .ref 117), (1, .int v1)], [.int 4, .ref 117], σ)) 1 rfl rfl (trivial) ?_
    obtain ⟨r4, σ4, hc, h⟩ := bd_some h
    refine Rc.call (Ev.mono d) (v := some (.int r4)) (as := [.ref 117, .int 4]) (r := []) 2 rfl rfl rfl rfl ⟨rfl, Nat.le_of_ble_eq_true rfl⟩ (m_refuse_117_ok (by omega) hc) ?_
    show Rc _ _ _ (10, [(0, .ref 117), (1, .int v1)], [.int r4], σ4) _
    obtain ⟨rfl, rfl⟩ := some_pair h
    exact Rc.ret 3 rfl rfl rfl trivial ⟨rfl, rfl⟩
theorem m_draws_117_ok {d : Nat} (hd : 1 ≤ d) {v1 : Int32} {σ : Sg} {r : Int32} {σ2 : Sg} (h : m_draws_117 v1 σ = some (r, σ2)) : Ev MT CT d 214 [.ref 117, .int v1] σ (fun v s => v = some (.int r) ∧ s = σ2) := by
  obtain ⟨d, rfl⟩ : ∃ e, d = e + 1 := ⟨d - 1, by omega⟩
  refine ⟨Nat.le_of_ble_eq_true rfl, ?_⟩
  show Rc none (Ev MT CT d) sg214 (0, [(0, .ref 117), (1, .int v1)], [], σ) _
  unfold m_draws_117 at h
  have hd : 0 ≤ d := by omega
  obtain ⟨g1, h⟩ := gd_some h
  refine Rc.blk (c := [_, _, _, _, _]) (s2 := (30, [(0, .ref 117), (1, .int v1)], [.int (irm ((((si σ 117 26 (((σ.1 117 26) * 1664525) + 1013904223)).1 117 26) &&& 2147483647) / 256) v1)], si σ 117 26 (((σ.1 117 26) * 1664525) + 1013904223))) 0 rfl rfl (conj_c (rfl) (conj_c (rfl) (conj_c (rfl) (conj_c ((by decide)) (conj_c (neB_ne g1) (trivial)))))) ?_
  obtain ⟨rfl, rfl⟩ := some_pair h
  exact Rc.ret 1 rfl rfl rfl trivial ⟨rfl, rfl⟩
theorem m_lots_117_b205_ok {d : Nat} (hd : 2 ≤ d) (s0 : Int32) (σ : Sg) (r : Int32) (σ2 : Sg) (h : m_lots_117_b205 s0 σ = some (r, σ2)) : Rc none (Ev MT CT d) sg215 (205, [], [.int s0], σ) (fun v s => v = some (.int r) ∧ s = σ2) := by
  unfold m_lots_117_b205 at h
  obtain ⟨rfl, rfl⟩ := some_pair h
  exact Rc.ret 41 rfl rfl rfl trivial ⟨rfl, rfl⟩
theorem m_lots_117_b179_ok {d : Nat} (hd : 2 ≤ d) {k54 : Int32 → Int32 → Int32 → Int32 → Int32 → Sg → Option (Int32 × Sg)} {k114 : Int32 → Int32 → Int32 → Int32 → Int32 → Int32 → Sg → Option (Int32 × Sg)} (hk54 : ∀ (v1 : Int32) (v3 : Int32) (v4 : Int32) (v5 : Int32) (v6 : Int32) (σ : Sg) (r : Int32) (σ2 : Sg), k54 v1 v3 v4 v5 v6 σ = some (r, σ2) → Rc none (Ev MT CT d) sg215 (54, [(0, .ref 117), (1, .int v1), (3, .int v3), (4, .int v4), (5, .int v5), (6, .int v6)], [], σ) (fun v s => v = some (.int r) ∧ s = σ2)) (hk114 : ∀ (v1 : Int32) (v3 : Int32) (v4 : Int32) (v5 : Int32) (v6 : Int32) (v7 : Int32) (σ : Sg) (r : Int32) (σ2 : Sg), k114 v1 v3 v4 v5 v6 v7 σ = some (r, σ2) → Rc none (Ev MT CT d) sg215 (114, [(0, .ref 117), (1, .int v1), (3, .int v3), (4, .int v4), (5, .int v5), (6, .int v6), (7, .int v7)], [], σ) (fun v s => v = some (.int r) ∧ s = σ2)) (v1 : Int32) (v3 : Int32) (v4 : Int32) (v6 : Int32) (v7 : Int32) (s0 : Int32) (s1 : Int32) (σ : Sg) (r : Int32) (σ2 : Sg) (h : m_lots_117_b179 k54 k114 v1 v3 v4 v6 v7 s0 s1 σ = some (r, σ2)) : Rc none (Ev MT CT d) sg215 (179, [(0, .ref 117), (1, .int v1), (3, .int v3), (4, .int v4), (6, .int v6), (7, .int v7)], [.int s1, .int s0], σ) (fun v s => v = some (.int r) ∧ s = σ2) := by
  unfold m_lots_117_b179 at h
  refine Rc.blk (c := []) (s2 := (114, [(7, .int (v7 + 1)), (5, .int (s0 + s1)), (0, .ref 117), (1, .int v1), (3, .int v3), (4, .int v4), (6, .int v6)], [], σ)) 36 rfl rfl (trivial) ?_
  refine Rc.pick [2, 3, 4, 5, 1, 6, 0] (lv2 := [(0, .ref 117), (1, .int v1), (3, .int v3), (4, .int v4), (5, .int (s0 + s1)), (6, .int v6), (7, .int (v7 + 1))]) rfl ?_
  exact hk114 _ _ _ _ _ _ _ _ _ h
theorem m_lots_117_H126_ok {d : Nat} (hd : 2 ≤ d) {k54 : Int32 → Int32 → Int32 → Int32 → Int32 → Sg → Option (Int32 × Sg)} {k114 : Int32 → Int32 → Int32 → Int32 → Int32 → Int32 → Sg → Option (Int32 × Sg)} {k126 : Int32 → Int32 → Int32 → Int32 → Int32 → Int32 → Int32 → Int32 → Sg → Option (Int32 × Sg)} (hk54 : ∀ (v1 : Int32) (v3 : Int32) (v4 : Int32) (v5 : Int32) (v6 : Int32) (σ : Sg) (r : Int32) (σ2 : Sg), k54 v1 v3 v4 v5 v6 σ = some (r, σ2) → Rc none (Ev MT CT d) sg215 (54, [(0, .ref 117), (1, .int v1), (3, .int v3), (4, .int v4), (5, .int v5), (6, .int v6)], [], σ) (fun v s => v = some (.int r) ∧ s = σ2)) (hk114 : ∀ (v1 : Int32) (v3 : Int32) (v4 : Int32) (v5 : Int32) (v6 : Int32) (v7 : Int32) (σ : Sg) (r : Int32) (σ2 : Sg), k114 v1 v3 v4 v5 v6 v7 σ = some (r, σ2) → Rc none (Ev MT CT d) sg215 (114, [(0, .ref 117), (1, .int v1), (3, .int v3), (4, .int v4), (5, .int v5), (6, .int v6), (7, .int v7)], [], σ) (fun v s => v = some (.int r) ∧ s = σ2)) (hk126 : ∀ (v1 : Int32) (v3 : Int32) (v4 : Int32) (v5 : Int32) (v6 : Int32) (v7 : Int32) (v8 : Int32) (v9 : Int32) (σ : Sg) (r : Int32) (σ2 : Sg), k126 v1 v3 v4 v5 v6 v7 v8 v9 σ = some (r, σ2) → Rc none (Ev MT CT d) sg215 (126, [(0, .ref 117), (1, .int v1), (3, .int v3), (4, .int v4), (5, .int v5), (6, .int v6), (7, .int v7), (8, .int v8), (9, .int v9)], [], σ) (fun v s => v = some (.int r) ∧ s = σ2)) (v1 : Int32) (v3 : Int32) (v4 : Int32) (v5 : Int32) (v6 : Int32) (v7 : Int32) (v8 : Int32) (v9 : Int32) (σ : Sg) (r : Int32) (σ2 : Sg) (h : m_lots_117_H126 k54 k114 k126 v1 v3 v4 v5 v6 v7 v8 v9 σ = some (r, σ2)) : Rc none (Ev MT CT d) sg215 (126, [(0, .ref 117), (1, .int v1), (3, .int v3), (4, .int v4), (5, .int v5), (6, .int v6), (7, .int v7), (8, .int v8), (9, .int v9)], [], σ) (fun v s => v = some (.int r) ∧ s = σ2) := by
  unfold m_lots_117_H126 at h
  refine Rc.blk (c := [_, _]) (s2 := (if (σ.1 118 0) ≤ v9 then 164 else 137, [(0, .ref 117), (1, .int v1), (3, .int v3), (4, .int v4), (5, .int v5), (6, .int v6), (7, .int v7), (8, .int v8), (9, .int v9)], [], σ)) 29 rfl rfl (conj_c (rfl) (conj_c (⟨rfl, inB_in (by decide)⟩) (trivial))) ?_
  by_cases c4 : (σ.1 118 0) ≤ v9
  · rw [if_pos c4] at h
    refine Rc.ifp c4 ?_
    refine Rc.blk (c := []) (s2 := (if 0 ≤ v8 then 177 else 171, [(0, .ref 117), (1, .int v1), (3, .int v3), (4, .int v4), (5, .int v5), (6, .int v6), (7, .int v7), (8, .int v8), (9, .int v9)], [.int v5], σ)) 33 rfl rfl (trivial) ?_
    by_cases c1 : 0 ≤ v8
    · rw [if_pos c1] at h
      refine Rc.ifp c1 ?_
      refine Rc.blk (c := []) (s2 := (179, [(0, .ref 117), (1, .int v1), (3, .int v3), (4, .int v4), (5, .int v5), (6, .int v6), (7, .int v7), (8, .int v8), (9, .int v9)], [.int v8, .int v5], σ)) 35 rfl rfl (trivial) ?_
      refine Rc.pick [0, 1, 2, 3, 5, 6] (lv2 := [(0, .ref 117), (1, .int v1), (3, .int v3), (4, .int v4), (6, .int v6), (7, .int v7)]) rfl ?_
      exact m_lots_117_b179_ok hd hk54 hk114 _ _ _ _ _ _ _ _ _ _ h
    · rw [if_neg c1] at h
      refine Rc.ifn c1 ?_
      refine Rc.blk (c := []) (s2 := (179, [(0, .ref 117), (1, .int v1), (3, .int v3), (4, .int v4), (5, .int v5), (6, .int v6), (7, .int v7), (8, .int v8), (9, .int v9)], [.int (-v8), .int v5], σ)) 34 rfl rfl (trivial) ?_
      refine Rc.pick [0, 1, 2, 3, 5, 6] (lv2 := [(0, .ref 117), (1, .int v1), (3, .int v3), (4, .int v4), (6, .int v6), (7, .int v7)]) rfl ?_
      exact m_lots_117_b179_ok hd hk54 hk114 _ _ _ _ _ _ _ _ _ _ h
  · rw [if_neg c4] at h
    refine Rc.ifn c4 ?_
    obtain ⟨g2, h⟩ := gd_some h
    refine Rc.blk (c := [_, _]) (s2 := (151, [(0, .ref 117), (1, .int v1), (3, .int v3), (4, .int v4), (5, .int v5), (6, .int v6), (7, .int v7), (8, .int v8), (9, .int v9)], [.int v7, .int v9, .ref 117, .int (σ.1 128 v9.toNatClampNeg), .int v8], σ)) 30 rfl rfl (conj_c (rfl) (conj_c (⟨rfl, inB_in g2⟩) (trivial))) ?_
    obtain ⟨r3, σ3, hc, h⟩ := bd_some h
    refine Rc.call (Ev.mono d) (v := some (.int r3)) (as := [.ref 117, .int v9, .int v7]) (r := [.int (σ.1 128 v9.toNatClampNeg), .int v8]) 31 rfl rfl rfl rfl ⟨rfl, Nat.le_of_ble_eq_true rfl⟩ (m_powerOf_117_ok (by omega) hc) ?_
    show Rc _ _ _ (154, [(0, .ref 117), (1, .int v1), (3, .int v3), (4, .int v4), (5, .int v5), (6, .int v6), (7, .int v7), (8, .int v8), (9, .int v9)], [.int r3, .int (σ.1 128 v9.toNatClampNeg), .int v8], σ3) _
    refine Rc.blk (c := []) (s2 := (126, [(9, .int (v9 + 1)), (8, .int (v8 + ((σ.1 128 v9.toNatClampNeg) * r3))), (0, .ref 117), (1, .int v1), (3, .int v3), (4, .int v4), (5, .int v5), (6, .int v6), (7, .int v7)], [], σ3)) 32 rfl rfl (trivial) ?_
    refine Rc.pick [2, 3, 4, 5, 6, 7, 8, 1, 0] (lv2 := [(0, .ref 117), (1, .int v1), (3, .int v3), (4, .int v4), (5, .int v5), (6, .int v6), (7, .int v7), (8, .int (v8 + ((σ.1 128 v9.toNatClampNeg) * r3))), (9, .int (v9 + 1))]) rfl ?_
    exact hk126 _ _ _ _ _ _ _ _ _ _ _ h
theorem m_lots_117_L126_ok {d : Nat} (hd : 2 ≤ d) {k54 : Int32 → Int32 → Int32 → Int32 → Int32 → Sg → Option (Int32 × Sg)} {k114 : Int32 → Int32 → Int32 → Int32 → Int32 → Int32 → Sg → Option (Int32 × Sg)} (hk54 : ∀ (v1 : Int32) (v3 : Int32) (v4 : Int32) (v5 : Int32) (v6 : Int32) (σ : Sg) (r : Int32) (σ2 : Sg), k54 v1 v3 v4 v5 v6 σ = some (r, σ2) → Rc none (Ev MT CT d) sg215 (54, [(0, .ref 117), (1, .int v1), (3, .int v3), (4, .int v4), (5, .int v5), (6, .int v6)], [], σ) (fun v s => v = some (.int r) ∧ s = σ2)) (hk114 : ∀ (v1 : Int32) (v3 : Int32) (v4 : Int32) (v5 : Int32) (v6 : Int32) (v7 : Int32) (σ : Sg) (r : Int32) (σ2 : Sg), k114 v1 v3 v4 v5 v6 v7 σ = some (r, σ2) → Rc none (Ev MT CT d) sg215 (114, [(0, .ref 117), (1, .int v1), (3, .int v3), (4, .int v4), (5, .int v5), (6, .int v6), (7, .int v7)], [], σ) (fun v s => v = some (.int r) ∧ s = σ2)) : ∀ (n : Nat) (v1 : Int32) (v3 : Int32) (v4 : Int32) (v5 : Int32) (v6 : Int32) (v7 : Int32) (v8 : Int32) (v9 : Int32) (σ : Sg) (r : Int32) (σ2 : Sg), m_lots_117_L126 k54 k114 n v1 v3 v4 v5 v6 v7 v8 v9 σ = some (r, σ2) → Rc none (Ev MT CT d) sg215 (126, [(0, .ref 117), (1, .int v1), (3, .int v3), (4, .int v4), (5, .int v5), (6, .int v6), (7, .int v7), (8, .int v8), (9, .int v9)], [], σ) (fun v s => v = some (.int r) ∧ s = σ2)
  | 0, _, _, _, _, _, _, _, _, _, _, _, h => by cases h
  | n + 1, v1, v3, v4, v5, v6, v7, v8, v9, σ, r, σ2, h => m_lots_117_H126_ok hd hk54 hk114 (m_lots_117_L126_ok hd hk54 hk114 n) v1 v3 v4 v5 v6 v7 v8 v9 σ r σ2 h
theorem m_lots_117_H114_ok {d : Nat} (hd : 2 ≤ d) {k54 : Int32 → Int32 → Int32 → Int32 → Int32 → Sg → Option (Int32 × Sg)} {k114 : Int32 → Int32 → Int32 → Int32 → Int32 → Int32 → Sg → Option (Int32 × Sg)} (hk54 : ∀ (v1 : Int32) (v3 : Int32) (v4 : Int32) (v5 : Int32) (v6 : Int32) (σ : Sg) (r : Int32) (σ2 : Sg), k54 v1 v3 v4 v5 v6 σ = some (r, σ2) → Rc none (Ev MT CT d) sg215 (54, [(0, .ref 117), (1, .int v1), (3, .int v3), (4, .int v4), (5, .int v5), (6, .int v6)], [], σ) (fun v s => v = some (.int r) ∧ s = σ2)) (hk114 : ∀ (v1 : Int32) (v3 : Int32) (v4 : Int32) (v5 : Int32) (v6 : Int32) (v7 : Int32) (σ : Sg) (r : Int32) (σ2 : Sg), k114 v1 v3 v4 v5 v6 v7 σ = some (r, σ2) → Rc none (Ev MT CT d) sg215 (114, [(0, .ref 117), (1, .int v1), (3, .int v3), (4, .int v4), (5, .int v5), (6, .int v6), (7, .int v7)], [], σ) (fun v s => v = some (.int r) ∧ s = σ2)) (v1 : Int32) (v3 : Int32) (v4 : Int32) (v5 : Int32) (v6 : Int32) (v7 : Int32) (σ : Sg) (r : Int32) (σ2 : Sg) (h : m_lots_117_H114 k54 k114 v1 v3 v4 v5 v6 v7 σ = some (r, σ2)) : Rc none (Ev MT CT d) sg215 (114, [(0, .ref 117), (1, .int v1), (3, .int v3), (4, .int v4), (5, .int v5), (6, .int v6), (7, .int v7)], [], σ) (fun v s => v = some (.int r) ∧ s = σ2) := by
  unfold m_lots_117_H114 at h
  refine Rc.blk (c := []) (s2 := (if 5 ≤ v7 then 188 else 120, [(0, .ref 117), (1, .int v1), (3, .int v3), (4, .int v4), (5, .int v5), (6, .int v6), (7, .int v7)], [], σ)) 27 rfl rfl (trivial) ?_
  by_cases c1 : 5 ≤ v7
  · rw [if_pos c1] at h
    refine Rc.ifp c1 ?_
    refine Rc.blk (c := []) (s2 := (54, [(6, .int (v6 + 1)), (0, .ref 117), (1, .int v1), (3, .int v3), (4, .int v4), (5, .int v5), (7, .int v7)], [], σ)) 37 rfl rfl (trivial) ?_
    refine Rc.pick [1, 2, 3, 4, 5, 0] (lv2 := [(0, .ref 117), (1, .int v1), (3, .int v3), (4, .int v4), (5, .int v5), (6, .int (v6 + 1))]) rfl ?_
    exact hk54 _ _ _ _ _ _ _ _ h
  · rw [if_neg c1] at h
    refine Rc.ifn c1 ?_
    refine Rc.blk (c := []) (s2 := (126, [(9, .int 0), (8, .int 0), (0, .ref 117), (1, .int v1), (3, .int v3), (4, .int v4), (5, .int v5), (6, .int v6), (7, .int v7)], [], σ)) 28 rfl rfl (trivial) ?_
    refine Rc.pick [2, 3, 4, 5, 6, 7, 8, 1, 0] (lv2 := [(0, .ref 117), (1, .int v1), (3, .int v3), (4, .int v4), (5, .int v5), (6, .int v6), (7, .int v7), (8, .int 0), (9, .int 0)]) rfl ?_
    exact m_lots_117_L126_ok hd hk54 hk114 fu _ _ _ _ _ _ _ _ _ _ _ h
theorem m_lots_117_L114_ok {d : Nat} (hd : 2 ≤ d) {k54 : Int32 → Int32 → Int32 → Int32 → Int32 → Sg → Option (Int32 × Sg)} (hk54 : ∀ (v1 : Int32) (v3 : Int32) (v4 : Int32) (v5 : Int32) (v6 : Int32) (σ : Sg) (r : Int32) (σ2 : Sg), k54 v1 v3 v4 v5 v6 σ = some (r, σ2) → Rc none (Ev MT CT d) sg215 (54, [(0, .ref 117), (1, .int v1), (3, .int v3), (4, .int v4), (5, .int v5), (6, .int v6)], [], σ) (fun v s => v = some (.int r) ∧ s = σ2)) : ∀ (n : Nat) (v1 : Int32) (v3 : Int32) (v4 : Int32) (v5 : Int32) (v6 : Int32) (v7 : Int32) (σ : Sg) (r : Int32) (σ2 : Sg), m_lots_117_L114 k54 n v1 v3 v4 v5 v6 v7 σ = some (r, σ2) → Rc none (Ev MT CT d) sg215 (114, [(0, .ref 117), (1, .int v1), (3, .int v3), (4, .int v4), (5, .int v5), (6, .int v6), (7, .int v7)], [], σ) (fun v s => v = some (.int r) ∧ s = σ2)
  | 0, _, _, _, _, _, _, _, _, _, h => by cases h
  | n + 1, v1, v3, v4, v5, v6, v7, σ, r, σ2, h => m_lots_117_H114_ok hd hk54 (m_lots_117_L114_ok hd hk54 n) v1 v3 v4 v5 v6 v7 σ r σ2 h
theorem m_lots_117_b108_ok {d : Nat} (hd : 2 ≤ d) {k54 : Int32 → Int32 → Int32 → Int32 → Int32 → Sg → Option (Int32 × Sg)} (hk54 : ∀ (v1 : Int32) (v3 : Int32) (v4 : Int32) (v5 : Int32) (v6 : Int32) (σ : Sg) (r : Int32) (σ2 : Sg), k54 v1 v3 v4 v5 v6 σ = some (r, σ2) → Rc none (Ev MT CT d) sg215 (54, [(0, .ref 117), (1, .int v1), (3, .int v3), (4, .int v4), (5, .int v5), (6, .int v6)], [], σ) (fun v s => v = some (.int r) ∧ s = σ2)) (v1 : Int32) (v3 : Int32) (v5 : Int32) (v6 : Int32) (s0 : Int32) (s1 : Int32) (σ : Sg) (r : Int32) (σ2 : Sg) (h : m_lots_117_b108 k54 v1 v3 v5 v6 s0 s1 σ = some (r, σ2)) : Rc none (Ev MT CT d) sg215 (108, [(0, .ref 117), (1, .int v1), (3, .int v3), (5, .int v5), (6, .int v6)], [.int s1, .int s0], σ) (fun v s => v = some (.int r) ∧ s = σ2) := by
  unfold m_lots_117_b108 at h
  refine Rc.blk (c := []) (s2 := (114, [(7, .int 0), (4, .int (s0 + s1)), (0, .ref 117), (1, .int v1), (3, .int v3), (5, .int v5), (6, .int v6)], [], σ)) 26 rfl rfl (trivial) ?_
  refine Rc.pick [2, 3, 4, 1, 5, 6, 0] (lv2 := [(0, .ref 117), (1, .int v1), (3, .int v3), (4, .int (s0 + s1)), (5, .int v5), (6, .int v6), (7, .int 0)]) rfl ?_
  exact m_lots_117_L114_ok hd hk54 fu _ _ _ _ _ _ _ _ _ h
theorem m_lots_117_H63_ok {d : Nat} (hd : 2 ≤ d) {k54 : Int32 → Int32 → Int32 → Int32 → Int32 → Sg → Option (Int32 × Sg)} {k63 : Int32 → Int32 → Int32 → Int32 → Int32 → Int32 → Sg → Option (Int32 × Sg)} (hk54 : ∀ (v1 : Int32) (v3 : Int32) (v4 : Int32) (v5 : Int32) (v6 : Int32) (σ : Sg) (r : Int32) (σ2 : Sg), k54 v1 v3 v4 v5 v6 σ = some (r, σ2) → Rc none (Ev MT CT d) sg215 (54, [(0, .ref 117), (1, .int v1), (3, .int v3), (4, .int v4), (5, .int v5), (6, .int v6)], [], σ) (fun v s => v = some (.int r) ∧ s = σ2)) (hk63 : ∀ (v1 : Int32) (v3 : Int32) (v4 : Int32) (v5 : Int32) (v6 : Int32) (v7 : Int32) (σ : Sg) (r : Int32) (σ2 : Sg), k63 v1 v3 v4 v5 v6 v7 σ = some (r, σ2) → Rc none (Ev MT CT d) sg215 (63, [(0, .ref 117), (1, .int v1), (3, .int v3), (4, .int v4), (5, .int v5), (6, .int v6), (7, .int v7)], [], σ) (fun v s => v = some (.int r) ∧ s = σ2)) (v1 : Int32) (v3 : Int32) (v4 : Int32) (v5 : Int32) (v6 : Int32) (v7 : Int32) (σ : Sg) (r : Int32) (σ2 : Sg) (h : m_lots_117_H63 k54 k63 v1 v3 v4 v5 v6 v7 σ = some (r, σ2)) : Rc none (Ev MT CT d) sg215 (63, [(0, .ref 117), (1, .int v1), (3, .int v3), (4, .int v4), (5, .int v5), (6, .int v6), (7, .int v7)], [], σ) (fun v s => v = some (.int r) ∧ s = σ2) := by
  unfold m_lots_117_H63 at h
  refine Rc.blk (c := [_, _]) (s2 := (if (σ.1 118 0) ≤ v7 then 94 else 74, [(0, .ref 117), (1, .int v1), (3, .int v3), (4, .int v4), (5, .int v5), (6, .int v6), (7, .int v7)], [], σ)) 17 rfl rfl (conj_c (rfl) (conj_c (⟨rfl, inB_in (by decide)⟩) (trivial))) ?_
  by_cases c5 : (σ.1 118 0) ≤ v7
  · rw [if_pos c5] at h
    refine Rc.ifp c5 ?_
    refine Rc.blk (c := []) (s2 := (97, [(0, .ref 117), (1, .int v1), (3, .int v3), (4, .int v4), (5, .int v5), (6, .int v6), (7, .int v7)], [.ref 117, .int v4], σ)) 21 rfl rfl (trivial) ?_
    obtain ⟨r1, σ1, hc, h⟩ := bd_some h
    refine Rc.call (Ev.mono d) (v := some (.int r1)) (as := [.ref 117]) (r := [.int v4]) 22 rfl rfl rfl rfl ⟨rfl, Nat.le_of_ble_eq_true rfl⟩ (m_isToldPure_117_ok (by omega) hc) ?_
    show Rc _ _ _ (100, [(0, .ref 117), (1, .int v1), (3, .int v3), (4, .int v4), (5, .int v5), (6, .int v6), (7, .int v7)], [.int r1, .int v4], σ1) _
    refine Rc.blk (c := []) (s2 := (if r1 = 0 then 107 else 103, [(0, .ref 117), (1, .int v1), (3, .int v3), (4, .int v4), (5, .int v5), (6, .int v6), (7, .int v7)], [.int v4], σ1)) 23 rfl rfl (trivial) ?_
    by_cases c2 : r1 = 0
    · rw [if_pos c2] at h
      refine Rc.ifp c2 ?_
      refine Rc.blk (c := []) (s2 := (108, [(0, .ref 117), (1, .int v1), (3, .int v3), (4, .int v4), (5, .int v5), (6, .int v6), (7, .int v7)], [.int 0, .int v4], σ1)) 25 rfl rfl (trivial) ?_
      refine Rc.pick [0, 1, 2, 4, 5] (lv2 := [(0, .ref 117), (1, .int v1), (3, .int v3), (5, .int v5), (6, .int v6)]) rfl ?_
      exact m_lots_117_b108_ok hd hk54 _ _ _ _ _ _ _ _ _ h
    · rw [if_neg c2] at h
      refine Rc.ifn c2 ?_
      refine Rc.blk (c := []) (s2 := (108, [(0, .ref 117), (1, .int v1), (3, .int v3), (4, .int v4), (5, .int v5), (6, .int v6), (7, .int v7)], [.int 1, .int v4], σ1)) 24 rfl rfl (trivial) ?_
      refine Rc.pick [0, 1, 2, 4, 5] (lv2 := [(0, .ref 117), (1, .int v1), (3, .int v3), (5, .int v5), (6, .int v6)]) rfl ?_
      exact m_lots_117_b108_ok hd hk54 _ _ _ _ _ _ _ _ _ h
  · rw [if_neg c5] at h
    refine Rc.ifn c5 ?_
    refine Rc.blk (c := [_]) (s2 := (82, [(0, .ref 117), (1, .int v1), (3, .int v3), (4, .int v4), (5, .int v5), (6, .int v6), (7, .int v7)], [.int 5, .ref 117, .int v7, .ref 128], σ)) 18 rfl rfl (conj_c (rfl) (trivial)) ?_
    obtain ⟨r3, σ3, hc, h⟩ := bd_some h
    refine Rc.call (Ev.mono d) (v := some (.int r3)) (as := [.ref 117, .int 5]) (r := [.int v7, .ref 128]) 19 rfl rfl rfl rfl ⟨rfl, Nat.le_of_ble_eq_true rfl⟩ (m_draws_117_ok (by omega) hc) ?_
    show Rc _ _ _ (85, [(0, .ref 117), (1, .int v1), (3, .int v3), (4, .int v4), (5, .int v5), (6, .int v6), (7, .int v7)], [.int r3, .int v7, .ref 128], σ3) _
    obtain ⟨g4, h⟩ := gd_some h
    refine Rc.blk (c := [_]) (s2 := (63, [(7, .int (v7 + 1)), (0, .ref 117), (1, .int v1), (3, .int v3), (4, .int v4), (5, .int v5), (6, .int v6)], [], si σ3 128 v7.toNatClampNeg (r3 - 2))) 20 rfl rfl (conj_c (⟨rfl, inB_in g4⟩) (trivial)) ?_
    refine Rc.pick [1, 2, 3, 4, 5, 6, 0] (lv2 := [(0, .ref 117), (1, .int v1), (3, .int v3), (4, .int v4), (5, .int v5), (6, .int v6), (7, .int (v7 + 1))]) rfl ?_
    exact hk63 _ _ _ _ _ _ _ _ _ h
theorem m_lots_117_L63_ok {d : Nat} (hd : 2 ≤ d) {k54 : Int32 → Int32 → Int32 → Int32 → Int32 → Sg → Option (Int32 × Sg)} (hk54 : ∀ (v1 : Int32) (v3 : Int32) (v4 : Int32) (v5 : Int32) (v6 : Int32) (σ : Sg) (r : Int32) (σ2 : Sg), k54 v1 v3 v4 v5 v6 σ = some (r, σ2) → Rc none (Ev MT CT d) sg215 (54, [(0, .ref 117), (1, .int v1), (3, .int v3), (4, .int v4), (5, .int v5), (6, .int v6)], [], σ) (fun v s => v = some (.int r) ∧ s = σ2)) : ∀ (n : Nat) (v1 : Int32) (v3 : Int32) (v4 : Int32) (v5 : Int32) (v6 : Int32) (v7 : Int32) (σ : Sg) (r : Int32) (σ2 : Sg), m_lots_117_L63 k54 n v1 v3 v4 v5 v6 v7 σ = some (r, σ2) → Rc none (Ev MT CT d) sg215 (63, [(0, .ref 117), (1, .int v1), (3, .int v3), (4, .int v4), (5, .int v5), (6, .int v6), (7, .int v7)], [], σ) (fun v s => v = some (.int r) ∧ s = σ2)
  | 0, _, _, _, _, _, _, _, _, _, h => by cases h
  | n + 1, v1, v3, v4, v5, v6, v7, σ, r, σ2, h => m_lots_117_H63_ok hd hk54 (m_lots_117_L63_ok hd hk54 n) v1 v3 v4 v5 v6 v7 σ r σ2 h
theorem m_lots_117_H54_ok {d : Nat} (hd : 2 ≤ d) {k54 : Int32 → Int32 → Int32 → Int32 → Int32 → Sg → Option (Int32 × Sg)} (hk54 : ∀ (v1 : Int32) (v3 : Int32) (v4 : Int32) (v5 : Int32) (v6 : Int32) (σ : Sg) (r : Int32) (σ2 : Sg), k54 v1 v3 v4 v5 v6 σ = some (r, σ2) → Rc none (Ev MT CT d) sg215 (54, [(0, .ref 117), (1, .int v1), (3, .int v3), (4, .int v4), (5, .int v5), (6, .int v6)], [], σ) (fun v s => v = some (.int r) ∧ s = σ2)) (v1 : Int32) (v3 : Int32) (v4 : Int32) (v5 : Int32) (v6 : Int32) (σ : Sg) (r : Int32) (σ2 : Sg) (h : m_lots_117_H54 k54 v1 v3 v4 v5 v6 σ = some (r, σ2)) : Rc none (Ev MT CT d) sg215 (54, [(0, .ref 117), (1, .int v1), (3, .int v3), (4, .int v4), (5, .int v5), (6, .int v6)], [], σ) (fun v s => v = some (.int r) ∧ s = σ2) := by
  unfold m_lots_117_H54 at h
  refine Rc.blk (c := []) (s2 := (if v1 ≤ v6 then 194 else 60, [(0, .ref 117), (1, .int v1), (3, .int v3), (4, .int v4), (5, .int v5), (6, .int v6)], [], σ)) 15 rfl rfl (trivial) ?_
  by_cases c2 : v1 ≤ v6
  · rw [if_pos c2] at h
    refine Rc.ifp c2 ?_
    refine Rc.blk (c := []) (s2 := (if ¬ v3 = 0 then 203 else 198, [(0, .ref 117), (1, .int v1), (3, .int v3), (4, .int v4), (5, .int v5), (6, .int v6)], [], σ)) 38 rfl rfl (trivial) ?_
    by_cases c1 : v3 = 0
    · rw [if_pos c1] at h
      refine Rc.ifn (fun q => q c1) ?_
      refine Rc.blk (c := []) (s2 := (205, [(0, .ref 117), (1, .int v1), (3, .int v3), (4, .int v4), (5, .int v5), (6, .int v6)], [.int v4], σ)) 39 rfl rfl (trivial) ?_
      refine Rc.pick [] (lv2 := []) rfl ?_
      exact m_lots_117_b205_ok hd _ _ _ _ h
    · rw [if_neg c1] at h
      refine Rc.ifp c1 ?_
      refine Rc.blk (c := []) (s2 := (205, [(0, .ref 117), (1, .int v1), (3, .int v3), (4, .int v4), (5, .int v5), (6, .int v6)], [.int v5], σ)) 40 rfl rfl (trivial) ?_
      refine Rc.pick [] (lv2 := []) rfl ?_
      exact m_lots_117_b205_ok hd _ _ _ _ h
  · rw [if_neg c2] at h
    refine Rc.ifn c2 ?_
    refine Rc.blk (c := []) (s2 := (63, [(7, .int 0), (0, .ref 117), (1, .int v1), (3, .int v3), (4, .int v4), (5, .int v5), (6, .int v6)], [], σ)) 16 rfl rfl (trivial) ?_
    refine Rc.pick [1, 2, 3, 4, 5, 6, 0] (lv2 := [(0, .ref 117), (1, .int v1), (3, .int v3), (4, .int v4), (5, .int v5), (6, .int v6), (7, .int 0)]) rfl ?_
    exact m_lots_117_L63_ok hd hk54 fu _ _ _ _ _ _ _ _ _ h
theorem m_lots_117_L54_ok {d : Nat} (hd : 2 ≤ d) : ∀ (n : Nat) (v1 : Int32) (v3 : Int32) (v4 : Int32) (v5 : Int32) (v6 : Int32) (σ : Sg) (r : Int32) (σ2 : Sg), m_lots_117_L54 n v1 v3 v4 v5 v6 σ = some (r, σ2) → Rc none (Ev MT CT d) sg215 (54, [(0, .ref 117), (1, .int v1), (3, .int v3), (4, .int v4), (5, .int v5), (6, .int v6)], [], σ) (fun v s => v = some (.int r) ∧ s = σ2)
  | 0, _, _, _, _, _, _, _, _, h => by cases h
  | n + 1, v1, v3, v4, v5, v6, σ, r, σ2, h => m_lots_117_H54_ok hd (m_lots_117_L54_ok hd n) v1 v3 v4 v5 v6 σ r σ2 h
theorem m_lots_117_ok {d : Nat} (hd : 3 ≤ d) {v1 : Int32} {v2 : Int32} {v3 : Int32} {σ : Sg} {r : Int32} {σ2 : Sg} (h : m_lots_117 v1 v2 v3 σ = some (r, σ2)) : Ev MT CT d 215 [.ref 117, .int v1, .int v2, .int v3] σ (fun v s => v = some (.int r) ∧ s = σ2) := by
  obtain ⟨d, rfl⟩ : ∃ e, d = e + 1 := ⟨d - 1, by omega⟩
  refine ⟨Nat.le_of_ble_eq_true rfl, ?_⟩
  show Rc none (Ev MT CT d) sg215 (0, [(0, .ref 117), (1, .int v1), (2, .int v2), (3, .int v3)], [], σ) _
  unfold m_lots_117 at h
  have hd : 2 ≤ d := by omega
  refine Rc.blk (c := []) (s2 := (if 1 ≤ v1 then 11 else 5, [(0, .ref 117), (1, .int v1), (2, .int v2), (3, .int v3)], [], σ)) 0 rfl rfl (trivial) ?_
  by_cases c7 : 1 ≤ v1
  · rw [if_pos c7] at h
    refine Rc.ifp c7 ?_
    refine Rc.blk (c := []) (s2 := (if v1 ≤ 50 then 24 else 17, [(0, .ref 117), (1, .int v1), (2, .int v2), (3, .int v3)], [], σ)) 4 rfl rfl (trivial) ?_
    by_cases c5 : v1 ≤ 50
    · rw [if_pos c5] at h
      refine Rc.ifp c5 ?_
      refine Rc.blk (c := []) (s2 := (28, [(0, .ref 117), (1, .int v1), (2, .int v2), (3, .int v3)], [.long 1, .long 0, .long v3.toInt64], σ)) 8 rfl rfl (trivial) ?_
      obtain ⟨r1, σ1, hc, h⟩ := bd_some h
      refine Rc.call (Ev.mono d) (v := some (.int r1)) (as := [.long v3.toInt64, .long 0, .long 1]) (r := []) 9 rfl rfl rfl rfl (Nat.le_of_ble_eq_true rfl) (m_isIn_s_ok (by omega) hc) ?_
      show Rc _ _ _ (31, [(0, .ref 117), (1, .int v1), (2, .int v2), (3, .int v3)], [.int r1], σ1) _
      refine Rc.blk (c := []) (s2 := (if ¬ r1 = 0 then 40 else 34, [(0, .ref 117), (1, .int v1), (2, .int v2), (3, .int v3)], [], σ1)) 10 rfl rfl (trivial) ?_
      by_cases c3 : r1 = 0
      · rw [if_pos c3] at h
        refine Rc.ifn (fun q => q c3) ?_
        refine Rc.blk (c := []) (s2 := (36, [(0, .ref 117), (1, .int v1), (2, .int v2), (3, .int v3)], [.int 2, .ref 117], σ1)) 11 rfl rfl (trivial) ?_
        obtain ⟨r2, σ2, hc, h⟩ := bd_some h
        refine Rc.call (Ev.mono d) (v := some (.int r2)) (as := [.ref 117, .int 2]) (r := []) 12 rfl rfl rfl rfl ⟨rfl, Nat.le_of_ble_eq_true rfl⟩ (m_refuse_117_ok (by omega) hc) ?_
        show Rc _ _ _ (39, [(0, .ref 117), (1, .int v1), (2, .int v2), (3, .int v3)], [.int r2], σ2) _
        obtain ⟨rfl, rfl⟩ := some_pair h
        exact Rc.ret 13 rfl rfl rfl trivial ⟨rfl, rfl⟩
      · rw [if_neg c3] at h
        refine Rc.ifp c3 ?_
        refine Rc.blk (c := [_]) (s2 := (54, [(6, .int 0), (5, .int 0), (4, .int 0), (0, .ref 117), (1, .int v1), (2, .int v2), (3, .int v3)], [], si σ1 117 26 v2)) 14 rfl rfl (conj_c (rfl) (trivial)) ?_
        refine Rc.pick [3, 4, 6, 2, 1, 0] (lv2 := [(0, .ref 117), (1, .int v1), (3, .int v3), (4, .int 0), (5, .int 0), (6, .int 0)]) rfl ?_
        exact m_lots_117_L54_ok hd fu _ _ _ _ _ _ _ _ h
    · rw [if_neg c5] at h
      refine Rc.ifn c5 ?_
      refine Rc.blk (c := []) (s2 := (20, [(0, .ref 117), (1, .int v1), (2, .int v2), (3, .int v3)], [.int 6, .ref 117], σ)) 5 rfl rfl (trivial) ?_
      obtain ⟨r4, σ4, hc, h⟩ := bd_some h
      refine Rc.call (Ev.mono d) (v := some (.int r4)) (as := [.ref 117, .int 6]) (r := []) 6 rfl rfl rfl rfl ⟨rfl, Nat.le_of_ble_eq_true rfl⟩ (m_refuse_117_ok (by omega) hc) ?_
      show Rc _ _ _ (23, [(0, .ref 117), (1, .int v1), (2, .int v2), (3, .int v3)], [.int r4], σ4) _
      obtain ⟨rfl, rfl⟩ := some_pair h
      exact Rc.ret 7 rfl rfl rfl trivial ⟨rfl, rfl⟩
  · rw [if_neg c7] at h
    refine Rc.ifn c7 ?_
    refine Rc.blk (c := []) (s2 := (7, [(0, .ref 117), (1, .int v1), (2, .int v2), (3, .int v3)], [.int 4, .ref 117], σ)) 1 rfl rfl (trivial) ?_
    obtain ⟨r6, σ6, hc, h⟩ := bd_some h
    refine Rc.call (Ev.mono d) (v := some (.int r6)) (as := [.ref 117, .int 4]) (r := []) 2 rfl rfl rfl rfl ⟨rfl, Nat.le_of_ble_eq_true rfl⟩ (m_refuse_117_ok (by omega) hc) ?_
    show Rc _ _ _ (10, [(0, .ref 117), (1, .int v1), (2, .int v2), (3, .int v3)], [.int r6], σ6) _
    obtain ⟨rfl, rfl⟩ := some_pair h
    exact Rc.ret 3 rfl rfl rfl trivial ⟨rfl, rfl⟩
theorem m_list_117_H46_ok {d : Nat} (hd : 2 ≤ d) {k46 : Int32 → Int32 → Sg → Option (Int32 × Sg)} (hk46 : ∀ (v1 : Int32) (v3 : Int32) (σ : Sg) (r : Int32) (σ2 : Sg), k46 v1 v3 σ = some (r, σ2) → Rc none (Ev MT CT d) sg217 (46, [(0, .ref 117), (1, .int v1), (3, .int v3)], [], σ) (fun v s => v = some (.int r) ∧ s = σ2)) (v1 : Int32) (v3 : Int32) (σ : Sg) (r : Int32) (σ2 : Sg) (h : m_list_117_H46 k46 v1 v3 σ = some (r, σ2)) : Rc none (Ev MT CT d) sg217 (46, [(0, .ref 117), (1, .int v1), (3, .int v3)], [], σ) (fun v s => v = some (.int r) ∧ s = σ2) := by
  unfold m_list_117_H46 at h
  refine Rc.blk (c := []) (s2 := (if 40 ≤ v3 then 70 else 52, [(0, .ref 117), (1, .int v1), (3, .int v3)], [], σ)) 15 rfl rfl (trivial) ?_
  by_cases c2 : 40 ≤ v3
  · rw [if_pos c2] at h
    refine Rc.ifp c2 ?_
    refine Rc.blk (c := []) (s2 := (71, [(0, .ref 117), (1, .int v1), (3, .int v3)], [.int 1], σ)) 17 rfl rfl (trivial) ?_
    obtain ⟨rfl, rfl⟩ := some_pair h
    exact Rc.ret 18 rfl rfl rfl trivial ⟨rfl, rfl⟩
  · rw [if_neg c2] at h
    refine Rc.ifn c2 ?_
    obtain ⟨g1, h⟩ := gd_some h
    refine Rc.blk (c := [_, _]) (s2 := (46, [(3, .int (v3 + 1)), (0, .ref 117), (1, .int v1)], [], si σ 127 ((40 * v1) + v3).toNatClampNeg 0)) 16 rfl rfl (conj_c (rfl) (conj_c (⟨rfl, inB_in g1⟩) (trivial))) ?_
    refine Rc.pick [1, 2, 0] (lv2 := [(0, .ref 117), (1, .int v1), (3, .int (v3 + 1))]) rfl ?_
    exact hk46 _ _ _ _ _ h
theorem m_list_117_L46_ok {d : Nat} (hd : 2 ≤ d) : ∀ (n : Nat) (v1 : Int32) (v3 : Int32) (σ : Sg) (r : Int32) (σ2 : Sg), m_list_117_L46 n v1 v3 σ = some (r, σ2) → Rc none (Ev MT CT d) sg217 (46, [(0, .ref 117), (1, .int v1), (3, .int v3)], [], σ) (fun v s => v = some (.int r) ∧ s = σ2)
  | 0, _, _, _, _, _, h => by cases h
  | n + 1, v1, v3, σ, r, σ2, h => m_list_117_H46_ok hd (m_list_117_L46_ok hd n) v1 v3 σ r σ2 h
theorem m_list_117_ok {d : Nat} (hd : 3 ≤ d) {v1 : Int32} {v2 : Int32} {σ : Sg} {r : Int32} {σ2 : Sg} (h : m_list_117 v1 v2 σ = some (r, σ2)) : Ev MT CT d 217 [.ref 117, .int v1, .int v2] σ (fun v s => v = some (.int r) ∧ s = σ2) := by
  obtain ⟨d, rfl⟩ : ∃ e, d = e + 1 := ⟨d - 1, by omega⟩
  refine ⟨Nat.le_of_ble_eq_true rfl, ?_⟩
  show Rc none (Ev MT CT d) sg217 (0, [(0, .ref 117), (1, .int v1), (2, .int v2)], [], σ) _
  unfold m_list_117 at h
  have hd : 2 ≤ d := by omega
  refine Rc.blk (c := []) (s2 := (1, [(0, .ref 117), (1, .int v1), (2, .int v2)], [.int v1], σ)) 0 rfl rfl (trivial) ?_
  obtain ⟨r1, σ1, hc, h⟩ := bd_some h
  refine Rc.call (Ev.mono d) (v := some (.int r1)) (as := [.int v1]) (r := []) 1 rfl rfl rfl rfl (Nat.le_of_ble_eq_true rfl) (m_isList_s_ok (by omega) hc) ?_
  show Rc _ _ _ (4, [(0, .ref 117), (1, .int v1), (2, .int v2)], [.int r1], σ1) _
  refine Rc.blk (c := []) (s2 := (if ¬ r1 = 0 then 13 else 7, [(0, .ref 117), (1, .int v1), (2, .int v2)], [], σ1)) 2 rfl rfl (trivial) ?_
  by_cases c8 : r1 = 0
  · rw [if_pos c8] at h
    refine Rc.ifn (fun q => q c8) ?_
    refine Rc.blk (c := []) (s2 := (9, [(0, .ref 117), (1, .int v1), (2, .int v2)], [.int 1, .ref 117], σ1)) 3 rfl rfl (trivial) ?_
    obtain ⟨r7, σ7, hc, h⟩ := bd_some h
    refine Rc.call (Ev.mono d) (v := some (.int r7)) (as := [.ref 117, .int 1]) (r := []) 4 rfl rfl rfl rfl ⟨rfl, Nat.le_of_ble_eq_true rfl⟩ (m_refuse_117_ok (by omega) hc) ?_
    show Rc _ _ _ (12, [(0, .ref 117), (1, .int v1), (2, .int v2)], [.int r7], σ7) _
    obtain ⟨rfl, rfl⟩ := some_pair h
    exact Rc.ret 5 rfl rfl rfl trivial ⟨rfl, rfl⟩
  · rw [if_neg c8] at h
    refine Rc.ifp c8 ?_
    refine Rc.blk (c := []) (s2 := (if v2 ≤ 40 then 26 else 19, [(0, .ref 117), (1, .int v1), (2, .int v2)], [], σ1)) 6 rfl rfl (trivial) ?_
    by_cases c6 : v2 ≤ 40
    · rw [if_pos c6] at h
      refine Rc.ifp c6 ?_
      refine Rc.blk (c := []) (s2 := (if 0 ≤ v2 then 37 else 30, [(0, .ref 117), (1, .int v1), (2, .int v2)], [], σ1)) 10 rfl rfl (trivial) ?_
      by_cases c4 : 0 ≤ v2
      · rw [if_pos c4] at h
        refine Rc.ifp c4 ?_
        obtain ⟨g2, h⟩ := gd_some h
        refine Rc.blk (c := [_, _]) (s2 := (46, [(3, .int 0), (0, .ref 117), (1, .int v1), (2, .int v2)], [], si σ1 126 v1.toNatClampNeg v2)) 14 rfl rfl (conj_c (rfl) (conj_c (⟨rfl, inB_in g2⟩) (trivial))) ?_
        refine Rc.pick [1, 2, 0] (lv2 := [(0, .ref 117), (1, .int v1), (3, .int 0)]) rfl ?_
        exact m_list_117_L46_ok hd fu _ _ _ _ _ h
      · rw [if_neg c4] at h
        refine Rc.ifn c4 ?_
        refine Rc.blk (c := []) (s2 := (33, [(0, .ref 117), (1, .int v1), (2, .int v2)], [.int 14, .ref 117], σ1)) 11 rfl rfl (trivial) ?_
        obtain ⟨r3, σ3, hc, h⟩ := bd_some h
        refine Rc.call (Ev.mono d) (v := some (.int r3)) (as := [.ref 117, .int 14]) (r := []) 12 rfl rfl rfl rfl ⟨rfl, Nat.le_of_ble_eq_true rfl⟩ (m_refuse_117_ok (by omega) hc) ?_
        show Rc _ _ _ (36, [(0, .ref 117), (1, .int v1), (2, .int v2)], [.int r3], σ3) _
        obtain ⟨rfl, rfl⟩ := some_pair h
        exact Rc.ret 13 rfl rfl rfl trivial ⟨rfl, rfl⟩
    · rw [if_neg c6] at h
      refine Rc.ifn c6 ?_
      refine Rc.blk (c := []) (s2 := (22, [(0, .ref 117), (1, .int v1), (2, .int v2)], [.int 6, .ref 117], σ1)) 7 rfl rfl (trivial) ?_
      obtain ⟨r5, σ5, hc, h⟩ := bd_some h
      refine Rc.call (Ev.mono d) (v := some (.int r5)) (as := [.ref 117, .int 6]) (r := []) 8 rfl rfl rfl rfl ⟨rfl, Nat.le_of_ble_eq_true rfl⟩ (m_refuse_117_ok (by omega) hc) ?_
      show Rc _ _ _ (25, [(0, .ref 117), (1, .int v1), (2, .int v2)], [.int r5], σ5) _
      obtain ⟨rfl, rfl⟩ := some_pair h
      exact Rc.ret 9 rfl rfl rfl trivial ⟨rfl, rfl⟩
theorem m_isCell_117_ok {d : Nat} (hd : 2 ≤ d) {v1 : Int32} {v2 : Int32} {σ : Sg} {r : Int32} {σ2 : Sg} (h : m_isCell_117 v1 v2 σ = some (r, σ2)) : Ev MT CT d 216 [.ref 117, .int v1, .int v2] σ (fun v s => v = some (.int r) ∧ s = σ2) := by
  obtain ⟨d, rfl⟩ : ∃ e, d = e + 1 := ⟨d - 1, by omega⟩
  refine ⟨Nat.le_of_ble_eq_true rfl, ?_⟩
  show Rc none (Ev MT CT d) sg216 (0, [(0, .ref 117), (1, .int v1), (2, .int v2)], [], σ) _
  unfold m_isCell_117 at h
  have hd : 1 ≤ d := by omega
  obtain ⟨g1, h⟩ := gd_some h
  refine Rc.blk (c := [_, _]) (s2 := (12, [(0, .ref 117), (1, .int v1), (2, .int v2)], [.long (((σ.1 126 v1.toNatClampNeg) - 1).toInt64), .long 0, .long v2.toInt64], σ)) 0 rfl rfl (conj_c (rfl) (conj_c (⟨rfl, inB_in g1⟩) (trivial))) ?_
  obtain ⟨r2, σ2, hc, h⟩ := bd_some h
  refine Rc.call (Ev.mono d) (v := some (.int r2)) (as := [.long v2.toInt64, .long 0, .long (((σ.1 126 v1.toNatClampNeg) - 1).toInt64)]) (r := []) 1 rfl rfl rfl rfl (Nat.le_of_ble_eq_true rfl) (m_isIn_s_ok (by omega) hc) ?_
  show Rc _ _ _ (15, [(0, .ref 117), (1, .int v1), (2, .int v2)], [.int r2], σ2) _
  obtain ⟨g, h⟩ := gd_some h
  obtain ⟨rfl, rfl⟩ := some_pair h
  exact Rc.ret 2 rfl rfl rfl (nbB_ok g) ⟨rfl, rfl⟩
theorem m_wrongCell_117_b40_ok {d : Nat} (hd : 2 ≤ d) (s0 : Int32) (σ : Sg) (r : Int32) (σ2 : Sg) (h : m_wrongCell_117_b40 s0 σ = some (r, σ2)) : Rc none (Ev MT CT d) sg218 (40, [], [.int s0], σ) (fun v s => v = some (.int r) ∧ s = σ2) := by
  unfold m_wrongCell_117_b40 at h
  obtain ⟨rfl, rfl⟩ := some_pair h
  exact Rc.ret 11 rfl rfl rfl trivial ⟨rfl, rfl⟩
theorem m_wrongCell_117_ok {d : Nat} (hd : 3 ≤ d) {v1 : Int32} {v2 : Int32} {σ : Sg} {r : Int32} {σ2 : Sg} (h : m_wrongCell_117 v1 v2 σ = some (r, σ2)) : Ev MT CT d 218 [.ref 117, .int v1, .int v2] σ (fun v s => v = some (.int r) ∧ s = σ2) := by
  obtain ⟨d, rfl⟩ : ∃ e, d = e + 1 := ⟨d - 1, by omega⟩
  refine ⟨Nat.le_of_ble_eq_true rfl, ?_⟩
  show Rc none (Ev MT CT d) sg218 (0, [(0, .ref 117), (1, .int v1), (2, .int v2)], [], σ) _
  unfold m_wrongCell_117 at h
  have hd : 2 ≤ d := by omega
  refine Rc.blk (c := []) (s2 := (1, [(0, .ref 117), (1, .int v1), (2, .int v2)], [.int v1], σ)) 0 rfl rfl (trivial) ?_
  obtain ⟨r1, σ1, hc, h⟩ := bd_some h
  refine Rc.call (Ev.mono d) (v := some (.int r1)) (as := [.int v1]) (r := []) 1 rfl rfl rfl rfl (Nat.le_of_ble_eq_true rfl) (m_isList_s_ok (by omega) hc) ?_
  show Rc _ _ _ (4, [(0, .ref 117), (1, .int v1), (2, .int v2)], [.int r1], σ1) _
  refine Rc.blk (c := []) (s2 := (if ¬ r1 = 0 then 11 else 7, [(0, .ref 117), (1, .int v1), (2, .int v2)], [], σ1)) 2 rfl rfl (trivial) ?_
  by_cases c6 : r1 = 0
  · rw [if_pos c6] at h
    refine Rc.ifn (fun q => q c6) ?_
    refine Rc.blk (c := []) (s2 := (40, [(0, .ref 117), (1, .int v1), (2, .int v2)], [.int 1], σ1)) 3 rfl rfl (trivial) ?_
    refine Rc.pick [] (lv2 := []) rfl ?_
    exact m_wrongCell_117_b40_ok hd _ _ _ _ h
  · rw [if_neg c6] at h
    refine Rc.ifp c6 ?_
    obtain ⟨g2, h⟩ := gd_some h
    refine Rc.blk (c := [_, _]) (s2 := (if 0 ≤ (σ1.1 126 v1.toNatClampNeg) then 25 else 20, [(0, .ref 117), (1, .int v1), (2, .int v2)], [], σ1)) 4 rfl rfl (conj_c (rfl) (conj_c (⟨rfl, inB_in g2⟩) (trivial))) ?_
    by_cases c5 : 0 ≤ (σ1.1 126 v1.toNatClampNeg)
    · rw [if_pos c5] at h
      refine Rc.ifp c5 ?_
      refine Rc.blk (c := []) (s2 := (28, [(0, .ref 117), (1, .int v1), (2, .int v2)], [.int v2, .int v1, .ref 117], σ1)) 6 rfl rfl (trivial) ?_
      obtain ⟨r3, σ3, hc, h⟩ := bd_some h
      refine Rc.call (Ev.mono d) (v := some (.int r3)) (as := [.ref 117, .int v1, .int v2]) (r := []) 7 rfl rfl rfl rfl ⟨rfl, Nat.le_of_ble_eq_true rfl⟩ (m_isCell_117_ok (by omega) hc) ?_
      show Rc _ _ _ (31, [(0, .ref 117), (1, .int v1), (2, .int v2)], [.int r3], σ3) _
      refine Rc.blk (c := []) (s2 := (if r3 = 0 then 38 else 34, [(0, .ref 117), (1, .int v1), (2, .int v2)], [], σ3)) 8 rfl rfl (trivial) ?_
      by_cases c4 : r3 = 0
      · rw [if_pos c4] at h
        refine Rc.ifp c4 ?_
        refine Rc.blk (c := []) (s2 := (40, [(0, .ref 117), (1, .int v1), (2, .int v2)], [.int 13], σ3)) 10 rfl rfl (trivial) ?_
        refine Rc.pick [] (lv2 := []) rfl ?_
        exact m_wrongCell_117_b40_ok hd _ _ _ _ h
      · rw [if_neg c4] at h
        refine Rc.ifn c4 ?_
        refine Rc.blk (c := []) (s2 := (40, [(0, .ref 117), (1, .int v1), (2, .int v2)], [.int 0], σ3)) 9 rfl rfl (trivial) ?_
        refine Rc.pick [] (lv2 := []) rfl ?_
        exact m_wrongCell_117_b40_ok hd _ _ _ _ h
    · rw [if_neg c5] at h
      refine Rc.ifn c5 ?_
      refine Rc.blk (c := []) (s2 := (40, [(0, .ref 117), (1, .int v1), (2, .int v2)], [.int 11], σ1)) 5 rfl rfl (trivial) ?_
      refine Rc.pick [] (lv2 := []) rfl ?_
      exact m_wrongCell_117_b40_ok hd _ _ _ _ h
theorem m_put_117_ok {d : Nat} (hd : 4 ≤ d) {v1 : Int32} {v2 : Int32} {v3 : Int32} {σ : Sg} {r : Int32} {σ2 : Sg} (h : m_put_117 v1 v2 v3 σ = some (r, σ2)) : Ev MT CT d 219 [.ref 117, .int v1, .int v2, .int v3] σ (fun v s => v = some (.int r) ∧ s = σ2) := by
  obtain ⟨d, rfl⟩ : ∃ e, d = e + 1 := ⟨d - 1, by omega⟩
  refine ⟨Nat.le_of_ble_eq_true rfl, ?_⟩
  show Rc none (Ev MT CT d) sg219 (0, [(0, .ref 117), (1, .int v1), (2, .int v2), (3, .int v3)], [], σ) _
  unfold m_put_117 at h
  have hd : 3 ≤ d := by omega
  refine Rc.blk (c := []) (s2 := (3, [(0, .ref 117), (1, .int v1), (2, .int v2), (3, .int v3)], [.int v2, .int v1, .ref 117], σ)) 0 rfl rfl (trivial) ?_
  obtain ⟨r1, σ1, hc, h⟩ := bd_some h
  refine Rc.call (Ev.mono d) (v := some (.int r1)) (as := [.ref 117, .int v1, .int v2]) (r := []) 1 rfl rfl rfl rfl ⟨rfl, Nat.le_of_ble_eq_true rfl⟩ (m_wrongCell_117_ok (by omega) hc) ?_
  show Rc _ _ _ (6, [(0, .ref 117), (1, .int v1), (2, .int v2), (3, .int v3)], [.int r1], σ1) _
  refine Rc.blk (c := []) (s2 := (if r1 = 0 then 20 else 13, [(4, .int r1), (0, .ref 117), (1, .int v1), (2, .int v2), (3, .int v3)], [], σ1)) 2 rfl rfl (trivial) ?_
  by_cases c4 : r1 = 0
  · rw [if_pos c4] at h
    refine Rc.ifp c4 ?_
    obtain ⟨g2, h⟩ := gd_some h
    refine Rc.blk (c := [_, _]) (s2 := (33, [(4, .int r1), (0, .ref 117), (1, .int v1), (2, .int v2), (3, .int v3)], [.int 1], si σ1 127 ((40 * v1) + v2).toNatClampNeg v3)) 6 rfl rfl (conj_c (rfl) (conj_c (⟨rfl, inB_in g2⟩) (trivial))) ?_
    obtain ⟨rfl, rfl⟩ := some_pair h
    exact Rc.ret 7 rfl rfl rfl trivial ⟨rfl, rfl⟩
  · rw [if_neg c4] at h
    refine Rc.ifn c4 ?_
    refine Rc.blk (c := []) (s2 := (16, [(4, .int r1), (0, .ref 117), (1, .int v1), (2, .int v2), (3, .int v3)], [.int r1, .ref 117], σ1)) 3 rfl rfl (trivial) ?_
    obtain ⟨r3, σ3, hc, h⟩ := bd_some h
    refine Rc.call (Ev.mono d) (v := some (.int r3)) (as := [.ref 117, .int r1]) (r := []) 4 rfl rfl rfl rfl ⟨rfl, Nat.le_of_ble_eq_true rfl⟩ (m_refuse_117_ok (by omega) hc) ?_
    show Rc _ _ _ (19, [(4, .int r1), (0, .ref 117), (1, .int v1), (2, .int v2), (3, .int v3)], [.int r3], σ3) _
    obtain ⟨rfl, rfl⟩ := some_pair h
    exact Rc.ret 5 rfl rfl rfl trivial ⟨rfl, rfl⟩
theorem m_look_117_b30_ok {d : Nat} (hd : 3 ≤ d) (s0 : Int32) (σ : Sg) (r : Int32) (σ2 : Sg) (h : m_look_117_b30 s0 σ = some (r, σ2)) : Rc none (Ev MT CT d) sg220 (30, [], [.int s0], σ) (fun v s => v = some (.int r) ∧ s = σ2) := by
  unfold m_look_117_b30 at h
  obtain ⟨rfl, rfl⟩ := some_pair h
  exact Rc.ret 7 rfl rfl rfl trivial ⟨rfl, rfl⟩
theorem m_look_117_ok {d : Nat} (hd : 4 ≤ d) {v1 : Int32} {v2 : Int32} {σ : Sg} {r : Int32} {σ2 : Sg} (h : m_look_117 v1 v2 σ = some (r, σ2)) : Ev MT CT d 220 [.ref 117, .int v1, .int v2] σ (fun v s => v = some (.int r) ∧ s = σ2) := by
  obtain ⟨d, rfl⟩ : ∃ e, d = e + 1 := ⟨d - 1, by omega⟩
  refine ⟨Nat.le_of_ble_eq_true rfl, ?_⟩
  show Rc none (Ev MT CT d) sg220 (0, [(0, .ref 117), (1, .int v1), (2, .int v2)], [], σ) _
  unfold m_look_117 at h
  have hd : 3 ≤ d := by omega
  refine Rc.blk (c := []) (s2 := (3, [(0, .ref 117), (1, .int v1), (2, .int v2)], [.int v2, .int v1, .ref 117], σ)) 0 rfl rfl (trivial) ?_
  obtain ⟨r1, σ1, hc, h⟩ := bd_some h
  refine Rc.call (Ev.mono d) (v := some (.int r1)) (as := [.ref 117, .int v1, .int v2]) (r := []) 1 rfl rfl rfl rfl ⟨rfl, Nat.le_of_ble_eq_true rfl⟩ (m_wrongCell_117_ok (by omega) hc) ?_
  show Rc _ _ _ (6, [(0, .ref 117), (1, .int v1), (2, .int v2)], [.int r1], σ1) _
  refine Rc.blk (c := []) (s2 := (if r1 = 0 then 19 else 11, [(3, .int r1), (0, .ref 117), (1, .int v1), (2, .int v2)], [], σ1)) 2 rfl rfl (trivial) ?_
  by_cases c4 : r1 = 0
  · rw [if_pos c4] at h
    refine Rc.ifp c4 ?_
    obtain ⟨g2, h⟩ := gd_some h
    refine Rc.blk (c := [_, _]) (s2 := (30, [(3, .int r1), (0, .ref 117), (1, .int v1), (2, .int v2)], [.int (σ1.1 127 ((40 * v1) + v2).toNatClampNeg)], σ1)) 6 rfl rfl (conj_c (rfl) (conj_c (⟨rfl, inB_in g2⟩) (trivial))) ?_
    refine Rc.pick [] (lv2 := []) rfl ?_
    exact m_look_117_b30_ok hd _ _ _ _ h
  · rw [if_neg c4] at h
    refine Rc.ifn c4 ?_
    refine Rc.blk (c := []) (s2 := (13, [(3, .int r1), (0, .ref 117), (1, .int v1), (2, .int v2)], [.int r1, .ref 117], σ1)) 3 rfl rfl (trivial) ?_
    obtain ⟨r3, σ3, hc, h⟩ := bd_some h
    refine Rc.call (Ev.mono d) (v := some (.int r3)) (as := [.ref 117, .int r1]) (r := []) 4 rfl rfl rfl rfl ⟨rfl, Nat.le_of_ble_eq_true rfl⟩ (m_refuseFar_117_ok (by omega) hc) ?_
    show Rc _ _ _ (16, [(3, .int r1), (0, .ref 117), (1, .int v1), (2, .int v2)], [.int r3], σ3) _
    refine Rc.blk (c := []) (s2 := (30, [(3, .int r1), (0, .ref 117), (1, .int v1), (2, .int v2)], [.int r3], σ3)) 5 rfl rfl (trivial) ?_
    refine Rc.pick [] (lv2 := []) rfl ?_
    exact m_look_117_b30_ok hd _ _ _ _ h
theorem m_lays3_117_b19_ok {d : Nat} (hd : 6 ≤ d) (σ : Sg) (r : Int32) (σ2 : Sg) (h : m_lays3_117_b19 σ = some (r, σ2)) : Rc none (Ev MT CT d) sg221 (19, [(0, .ref 117)], [], σ) (fun v s => v = some (.int r) ∧ s = σ2) := by
  unfold m_lays3_117_b19 at h
  refine Rc.blk (c := []) (s2 := (21, [(0, .ref 117)], [.int 1, .ref 117], σ)) 6 rfl rfl (trivial) ?_
  obtain ⟨r1, σ1, hc, h⟩ := bd_some h
  refine Rc.call (Ev.mono d) (v := some (.int r1)) (as := [.ref 117, .int 1]) (r := []) 7 rfl rfl rfl rfl ⟨rfl, Nat.le_of_ble_eq_true rfl⟩ (m_refuse_117_ok (by omega) hc) ?_
  show Rc _ _ _ (24, [(0, .ref 117)], [.int r1], σ1) _
  obtain ⟨rfl, rfl⟩ := some_pair h
  exact Rc.ret 8 rfl rfl rfl trivial ⟨rfl, rfl⟩
theorem m_lays3_117_b62_ok {d : Nat} (hd : 6 ≤ d) (σ : Sg) (r : Int32) (σ2 : Sg) (h : m_lays3_117_b62 σ = some (r, σ2)) : Rc none (Ev MT CT d) sg221 (62, [(0, .ref 117)], [], σ) (fun v s => v = some (.int r) ∧ s = σ2) := by
  unfold m_lays3_117_b62 at h
  refine Rc.blk (c := []) (s2 := (65, [(0, .ref 117)], [.int 13, .ref 117], σ)) 15 rfl rfl (trivial) ?_
  obtain ⟨r1, σ1, hc, h⟩ := bd_some h
  refine Rc.call (Ev.mono d) (v := some (.int r1)) (as := [.ref 117, .int 13]) (r := []) 16 rfl rfl rfl rfl ⟨rfl, Nat.le_of_ble_eq_true rfl⟩ (m_refuse_117_ok (by omega) hc) ?_
  show Rc _ _ _ (68, [(0, .ref 117)], [.int r1], σ1) _
  obtain ⟨rfl, rfl⟩ := some_pair h
  exact Rc.ret 17 rfl rfl rfl trivial ⟨rfl, rfl⟩
theorem m_lays3_117_H78_ok {d : Nat} (hd : 6 ≤ d) {k78 : Int32 → Int32 → Int32 → Sg → Option (Int32 × Sg)} (hk78 : ∀ (v1 : Int32) (v2 : Int32) (v5 : Int32) (σ : Sg) (r : Int32) (σ2 : Sg), k78 v1 v2 v5 σ = some (r, σ2) → Rc none (Ev MT CT d) sg221 (78, [(0, .ref 117), (1, .int v1), (2, .int v2), (5, .int v5)], [], σ) (fun v s => v = some (.int r) ∧ s = σ2)) (v1 : Int32) (v2 : Int32) (v5 : Int32) (σ : Sg) (r : Int32) (σ2 : Sg) (h : m_lays3_117_H78 k78 v1 v2 v5 σ = some (r, σ2)) : Rc none (Ev MT CT d) sg221 (78, [(0, .ref 117), (1, .int v1), (2, .int v2), (5, .int v5)], [], σ) (fun v s => v = some (.int r) ∧ s = σ2) := by
  unfold m_lays3_117_H78 at h
  refine Rc.blk (c := [_, _]) (s2 := (if (σ.1 118 0) ≤ v5 then 117 else 89, [(0, .ref 117), (1, .int v1), (2, .int v2), (5, .int v5)], [], σ)) 21 rfl rfl (conj_c (rfl) (conj_c (⟨rfl, inB_in (by decide)⟩) (trivial))) ?_
  by_cases c3 : (σ.1 118 0) ≤ v5
  · rw [if_pos c3] at h
    refine Rc.ifp c3 ?_
    refine Rc.blk (c := [_, _]) (s2 := (123, [(0, .ref 117), (1, .int v1), (2, .int v2), (5, .int v5)], [.int (σ.1 118 0)], σ)) 23 rfl rfl (conj_c (rfl) (conj_c (⟨rfl, inB_in (by decide)⟩) (trivial))) ?_
    obtain ⟨rfl, rfl⟩ := some_pair h
    exact Rc.ret 24 rfl rfl rfl trivial ⟨rfl, rfl⟩
  · rw [if_neg c3] at h
    refine Rc.ifn c3 ?_
    obtain ⟨g1, h⟩ := gd_some h
    obtain ⟨g2, h⟩ := gd_some h
    refine Rc.blk (c := [_, _, _, _]) (s2 := (78, [(5, .int (v5 + 1)), (0, .ref 117), (1, .int v1), (2, .int v2)], [], si σ 127 (((40 * v1) + v2) + v5).toNatClampNeg ((σ.2 124 v5.toNatClampNeg).toInt32))) 22 rfl rfl (conj_c (rfl) (conj_c (rfl) (conj_c (⟨rfl, inB_in g1⟩) (conj_c (⟨rfl, inB_in g2⟩) (trivial))))) ?_
    refine Rc.pick [1, 2, 3, 0] (lv2 := [(0, .ref 117), (1, .int v1), (2, .int v2), (5, .int (v5 + 1))]) rfl ?_
    exact hk78 _ _ _ _ _ _ h
theorem m_lays3_117_L78_ok {d : Nat} (hd : 6 ≤ d) : ∀ (n : Nat) (v1 : Int32) (v2 : Int32) (v5 : Int32) (σ : Sg) (r : Int32) (σ2 : Sg), m_lays3_117_L78 n v1 v2 v5 σ = some (r, σ2) → Rc none (Ev MT CT d) sg221 (78, [(0, .ref 117), (1, .int v1), (2, .int v2), (5, .int v5)], [], σ) (fun v s => v = some (.int r) ∧ s = σ2)
  | 0, _, _, _, _, _, _, h => by cases h
  | n + 1, v1, v2, v5, σ, r, σ2, h => m_lays3_117_H78_ok hd (m_lays3_117_L78_ok hd n) v1 v2 v5 σ r σ2 h
theorem m_lays3_117_ok {d : Nat} (hd : 7 ≤ d) {v1 : Int32} {v2 : Int32} {v3 : Int32} {σ : Sg} {r : Int32} {σ2 : Sg} (h : m_lays3_117 v1 v2 v3 σ = some (r, σ2)) : Ev MT CT d 221 [.ref 117, .int v1, .int v2, .int v3] σ (fun v s => v = some (.int r) ∧ s = σ2) := by
  obtain ⟨d, rfl⟩ : ∃ e, d = e + 1 := ⟨d - 1, by omega⟩
  refine ⟨Nat.le_of_ble_eq_true rfl, ?_⟩
  show Rc none (Ev MT CT d) sg221 (0, [(0, .ref 117), (1, .int v1), (2, .int v2), (3, .int v3)], [], σ) _
  unfold m_lays3_117 at h
  have hd : 6 ≤ d := by omega
  refine Rc.blk (c := []) (s2 := (2, [(0, .ref 117), (1, .int v1), (2, .int v2), (3, .int v3)], [.int v3, .ref 117], σ)) 0 rfl rfl (trivial) ?_
  obtain ⟨r1, σ1, hc, h⟩ := bd_some h
  refine Rc.call (Ev.mono d) (v := some (.int r1)) (as := [.ref 117, .int v3]) (r := []) 1 rfl rfl rfl rfl ⟨rfl, Nat.le_of_ble_eq_true rfl⟩ (m_ownOf_117_ok (by omega) hc) ?_
  show Rc _ _ _ (5, [(0, .ref 117), (1, .int v1), (2, .int v2), (3, .int v3)], [.int r1], σ1) _
  refine Rc.blk (c := []) (s2 := (8, [(4, .int r1), (0, .ref 117), (1, .int v1), (2, .int v2), (3, .int v3)], [.int v1], σ1)) 2 rfl rfl (trivial) ?_
  obtain ⟨r2, σ2, hc, h⟩ := bd_some h
  refine Rc.call (Ev.mono d) (v := some (.int r2)) (as := [.int v1]) (r := []) 3 rfl rfl rfl rfl (Nat.le_of_ble_eq_true rfl) (m_isList_s_ok (by omega) hc) ?_
  show Rc _ _ _ (11, [(4, .int r1), (0, .ref 117), (1, .int v1), (2, .int v2), (3, .int v3)], [.int r2], σ2) _
  refine Rc.blk (c := []) (s2 := (if r2 = 0 then 19 else 14, [(4, .int r1), (0, .ref 117), (1, .int v1), (2, .int v2), (3, .int v3)], [], σ2)) 4 rfl rfl (trivial) ?_
  by_cases c11 : r2 = 0
  · rw [if_pos c11] at h
    refine Rc.ifp c11 ?_
    refine Rc.pick [1] (lv2 := [(0, .ref 117)]) rfl ?_
    exact m_lays3_117_b19_ok hd _ _ _ h
  · rw [if_neg c11] at h
    refine Rc.ifn c11 ?_
    refine Rc.blk (c := []) (s2 := (if 0 ≤ r1 then 25 else 19, [(4, .int r1), (0, .ref 117), (1, .int v1), (2, .int v2), (3, .int v3)], [], σ2)) 5 rfl rfl (trivial) ?_
    by_cases c10 : 0 ≤ r1
    · rw [if_pos c10] at h
      refine Rc.ifp c10 ?_
      obtain ⟨g3, h⟩ := gd_some h
      refine Rc.blk (c := [_, _]) (s2 := (if 0 ≤ (σ2.1 126 v1.toNatClampNeg) then 41 else 34, [(4, .int r1), (0, .ref 117), (1, .int v1), (2, .int v2), (3, .int v3)], [], σ2)) 9 rfl rfl (conj_c (rfl) (conj_c (⟨rfl, inB_in g3⟩) (trivial))) ?_
      by_cases c9 : 0 ≤ (σ2.1 126 v1.toNatClampNeg)
      · rw [if_pos c9] at h
        refine Rc.ifp c9 ?_
        refine Rc.blk (c := []) (s2 := (if v2 < 0 then 62 else 45, [(4, .int r1), (0, .ref 117), (1, .int v1), (2, .int v2), (3, .int v3)], [], σ2)) 13 rfl rfl (trivial) ?_
        by_cases c7 : v2 < 0
        · rw [if_pos c7] at h
          refine Rc.ifp c7 ?_
          refine Rc.pick [1] (lv2 := [(0, .ref 117)]) rfl ?_
          exact m_lays3_117_b62_ok hd _ _ _ h
        · rw [if_neg c7] at h
          refine Rc.ifn c7 ?_
          obtain ⟨g4, h⟩ := gd_some h
          refine Rc.blk (c := [_, _, _, _]) (s2 := (if (σ2.1 118 0) ≤ ((σ2.1 126 v1.toNatClampNeg) - v2) then 69 else 62, [(4, .int r1), (0, .ref 117), (1, .int v1), (2, .int v2), (3, .int v3)], [], σ2)) 14 rfl rfl (conj_c (rfl) (conj_c (⟨rfl, inB_in (by decide)⟩) (conj_c (rfl) (conj_c (⟨rfl, inB_in g4⟩) (trivial))))) ?_
          by_cases c6 : (σ2.1 118 0) ≤ ((σ2.1 126 v1.toNatClampNeg) - v2)
          · rw [if_pos c6] at h
            refine Rc.ifp c6 ?_
            refine Rc.blk (c := []) (s2 := (72, [(4, .int r1), (0, .ref 117), (1, .int v1), (2, .int v2), (3, .int v3)], [.int r1, .ref 117], σ2)) 18 rfl rfl (trivial) ?_
            obtain ⟨r5, σ5, hc, h⟩ := bd_some h
            refine Rc.call (Ev.mono d) (v := none) (as := [.ref 117, .int r1]) (r := []) 19 rfl rfl rfl rfl ⟨rfl, Nat.le_of_ble_eq_true rfl⟩ (m_groups_117_ok (by omega) hc) ?_
            show Rc _ _ _ (75, [(4, .int r1), (0, .ref 117), (1, .int v1), (2, .int v2), (3, .int v3)], [], σ5) _
            refine Rc.blk (c := []) (s2 := (78, [(5, .int 0), (4, .int r1), (0, .ref 117), (1, .int v1), (2, .int v2), (3, .int v3)], [], σ5)) 20 rfl rfl (trivial) ?_
            refine Rc.pick [2, 3, 4, 0] (lv2 := [(0, .ref 117), (1, .int v1), (2, .int v2), (5, .int 0)]) rfl ?_
            exact m_lays3_117_L78_ok hd fu _ _ _ _ _ _ h
          · rw [if_neg c6] at h
            refine Rc.ifn c6 ?_
            refine Rc.pick [1] (lv2 := [(0, .ref 117)]) rfl ?_
            exact m_lays3_117_b62_ok hd _ _ _ h
      · rw [if_neg c9] at h
        refine Rc.ifn c9 ?_
        refine Rc.blk (c := []) (s2 := (37, [(4, .int r1), (0, .ref 117), (1, .int v1), (2, .int v2), (3, .int v3)], [.int 11, .ref 117], σ2)) 10 rfl rfl (trivial) ?_
        obtain ⟨r8, σ8, hc, h⟩ := bd_some h
        refine Rc.call (Ev.mono d) (v := some (.int r8)) (as := [.ref 117, .int 11]) (r := []) 11 rfl rfl rfl rfl ⟨rfl, Nat.le_of_ble_eq_true rfl⟩ (m_refuse_117_ok (by omega) hc) ?_
        show Rc _ _ _ (40, [(4, .int r1), (0, .ref 117), (1, .int v1), (2, .int v2), (3, .int v3)], [.int r8], σ8) _
        obtain ⟨rfl, rfl⟩ := some_pair h
        exact Rc.ret 12 rfl rfl rfl trivial ⟨rfl, rfl⟩
    · rw [if_neg c10] at h
      refine Rc.ifn c10 ?_
      refine Rc.pick [1] (lv2 := [(0, .ref 117)]) rfl ?_
      exact m_lays3_117_b19_ok hd _ _ _ h
theorem m_judge_117_b77_ok {d : Nat} (hd : 2 ≤ d) (v2 : Int32) (σ : Sg) (r : Int32) (σ2 : Sg) (h : m_judge_117_b77 v2 σ = some (r, σ2)) : Rc none (Ev MT CT d) sg222 (77, [(2, .int v2)], [], σ) (fun v s => v = some (.int r) ∧ s = σ2) := by
  unfold m_judge_117_b77 at h
  refine Rc.blk (c := []) (s2 := (78, [(2, .int v2)], [.int v2], σ)) 16 rfl rfl (trivial) ?_
  obtain ⟨rfl, rfl⟩ := some_pair h
  exact Rc.ret 17 rfl rfl rfl trivial ⟨rfl, rfl⟩
theorem m_judge_117_H31_ok {d : Nat} (hd : 2 ≤ d) {k31 : Int32 → Int32 → Sg → Option (Int32 × Sg)} (hk31 : ∀ (v1 : Int32) (v2 : Int32) (σ : Sg) (r : Int32) (σ2 : Sg), k31 v1 v2 σ = some (r, σ2) → Rc none (Ev MT CT d) sg222 (31, [(0, .ref 117), (1, .int v1), (2, .int v2)], [], σ) (fun v s => v = some (.int r) ∧ s = σ2)) (v1 : Int32) (v2 : Int32) (σ : Sg) (r : Int32) (σ2 : Sg) (h : m_judge_117_H31 k31 v1 v2 σ = some (r, σ2)) : Rc none (Ev MT CT d) sg222 (31, [(0, .ref 117), (1, .int v1), (2, .int v2)], [], σ) (fun v s => v = some (.int r) ∧ s = σ2) := by
  unfold m_judge_117_H31 at h
  obtain ⟨g1, h⟩ := gd_some h
  refine Rc.blk (c := [_, _]) (s2 := (if (σ.1 126 v1.toNatClampNeg) ≤ v2 then 85 else 41, [(0, .ref 117), (1, .int v1), (2, .int v2)], [], σ)) 11 rfl rfl (conj_c (rfl) (conj_c (⟨rfl, inB_in g1⟩) (trivial))) ?_
  by_cases c6 : (σ.1 126 v1.toNatClampNeg) ≤ v2
  · rw [if_pos c6] at h
    refine Rc.ifp c6 ?_
    refine Rc.blk (c := []) (s2 := (87, [(0, .ref 117), (1, .int v1), (2, .int v2)], [.int (-9)], σ)) 19 rfl rfl (trivial) ?_
    obtain ⟨rfl, rfl⟩ := some_pair h
    exact Rc.ret 20 rfl rfl rfl trivial ⟨rfl, rfl⟩
  · rw [if_neg c6] at h
    refine Rc.ifn c6 ?_
    refine Rc.blk (c := [_, _]) (s2 := (if (5 * (σ.1 118 0)) ≤ v2 then 77 else 53, [(0, .ref 117), (1, .int v1), (2, .int v2)], [], σ)) 12 rfl rfl (conj_c (rfl) (conj_c (⟨rfl, inB_in (by decide)⟩) (trivial))) ?_
    by_cases c5 : (5 * (σ.1 118 0)) ≤ v2
    · rw [if_pos c5] at h
      refine Rc.ifp c5 ?_
      refine Rc.pick [2] (lv2 := [(2, .int v2)]) rfl ?_
      exact m_judge_117_b77_ok hd _ _ _ _ h
    · rw [if_neg c5] at h
      refine Rc.ifn c5 ?_
      obtain ⟨g2, h⟩ := gd_some h
      refine Rc.blk (c := [_, _, _, _]) (s2 := (71, [(0, .ref 117), (1, .int v1), (2, .int v2)], [.int (irm v2 5), .int (v2 / 5), .ref 117, .int (σ.1 127 ((40 * v1) + v2).toNatClampNeg)], σ)) 13 rfl rfl (conj_c (rfl) (conj_c (⟨rfl, inB_in g2⟩) (conj_c ((by decide)) (conj_c ((by decide)) (trivial))))) ?_
      obtain ⟨r3, σ3, hc, h⟩ := bd_some h
      refine Rc.call (Ev.mono d) (v := some (.int r3)) (as := [.ref 117, .int (v2 / 5), .int (irm v2 5)]) (r := [.int (σ.1 127 ((40 * v1) + v2).toNatClampNeg)]) 14 rfl rfl rfl rfl ⟨rfl, Nat.le_of_ble_eq_true rfl⟩ (m_powerOf_117_ok (by omega) hc) ?_
      show Rc _ _ _ (74, [(0, .ref 117), (1, .int v1), (2, .int v2)], [.int r3, .int (σ.1 127 ((40 * v1) + v2).toNatClampNeg)], σ3) _
      refine Rc.blk (c := []) (s2 := (if (σ.1 127 ((40 * v1) + v2).toNatClampNeg) = r3 then 79 else 77, [(0, .ref 117), (1, .int v1), (2, .int v2)], [], σ3)) 15 rfl rfl (trivial) ?_
      by_cases c4 : (σ.1 127 ((40 * v1) + v2).toNatClampNeg) = r3
      · rw [if_pos c4] at h
        refine Rc.ifp c4 ?_
        refine Rc.blk (c := []) (s2 := (31, [(2, .int (v2 + 1)), (0, .ref 117), (1, .int v1)], [], σ3)) 18 rfl rfl (trivial) ?_
        refine Rc.pick [1, 2, 0] (lv2 := [(0, .ref 117), (1, .int v1), (2, .int (v2 + 1))]) rfl ?_
        exact hk31 _ _ _ _ _ h
      · rw [if_neg c4] at h
        refine Rc.ifn c4 ?_
        refine Rc.pick [2] (lv2 := [(2, .int v2)]) rfl ?_
        exact m_judge_117_b77_ok hd _ _ _ _ h
theorem m_judge_117_L31_ok {d : Nat} (hd : 2 ≤ d) : ∀ (n : Nat) (v1 : Int32) (v2 : Int32) (σ : Sg) (r : Int32) (σ2 : Sg), m_judge_117_L31 n v1 v2 σ = some (r, σ2) → Rc none (Ev MT CT d) sg222 (31, [(0, .ref 117), (1, .int v1), (2, .int v2)], [], σ) (fun v s => v = some (.int r) ∧ s = σ2)
  | 0, _, _, _, _, _, h => by cases h
  | n + 1, v1, v2, σ, r, σ2, h => m_judge_117_H31_ok hd (m_judge_117_L31_ok hd n) v1 v2 σ r σ2 h
theorem m_judge_117_ok {d : Nat} (hd : 3 ≤ d) {v1 : Int32} {σ : Sg} {r : Int32} {σ2 : Sg} (h : m_judge_117 v1 σ = some (r, σ2)) : Ev MT CT d 222 [.ref 117, .int v1] σ (fun v s => v = some (.int r) ∧ s = σ2) := by
  obtain ⟨d, rfl⟩ : ∃ e, d = e + 1 := ⟨d - 1, by omega⟩
  refine ⟨Nat.le_of_ble_eq_true rfl, ?_⟩
  show Rc none (Ev MT CT d) sg222 (0, [(0, .ref 117), (1, .int v1)], [], σ) _
  unfold m_judge_117 at h
  have hd : 2 ≤ d := by omega
  refine Rc.blk (c := []) (s2 := (1, [(0, .ref 117), (1, .int v1)], [.int v1], σ)) 0 rfl rfl (trivial) ?_
  obtain ⟨r1, σ1, hc, h⟩ := bd_some h
  refine Rc.call (Ev.mono d) (v := some (.int r1)) (as := [.int v1]) (r := []) 1 rfl rfl rfl rfl (Nat.le_of_ble_eq_true rfl) (m_isList_s_ok (by omega) hc) ?_
  show Rc _ _ _ (4, [(0, .ref 117), (1, .int v1)], [.int r1], σ1) _
  refine Rc.blk (c := []) (s2 := (if ¬ r1 = 0 then 13 else 7, [(0, .ref 117), (1, .int v1)], [], σ1)) 2 rfl rfl (trivial) ?_
  by_cases c6 : r1 = 0
  · rw [if_pos c6] at h
    refine Rc.ifn (fun q => q c6) ?_
    refine Rc.blk (c := []) (s2 := (9, [(0, .ref 117), (1, .int v1)], [.int 1, .ref 117], σ1)) 3 rfl rfl (trivial) ?_
    obtain ⟨r5, σ5, hc, h⟩ := bd_some h
    refine Rc.call (Ev.mono d) (v := some (.int r5)) (as := [.ref 117, .int 1]) (r := []) 4 rfl rfl rfl rfl ⟨rfl, Nat.le_of_ble_eq_true rfl⟩ (m_refuse_117_ok (by omega) hc) ?_
    show Rc _ _ _ (12, [(0, .ref 117), (1, .int v1)], [.int r5], σ5) _
    obtain ⟨rfl, rfl⟩ := some_pair h
    exact Rc.ret 5 rfl rfl rfl trivial ⟨rfl, rfl⟩
  · rw [if_neg c6] at h
    refine Rc.ifp c6 ?_
    obtain ⟨g2, h⟩ := gd_some h
    refine Rc.blk (c := [_, _]) (s2 := (if 0 ≤ (σ1.1 126 v1.toNatClampNeg) then 29 else 22, [(0, .ref 117), (1, .int v1)], [], σ1)) 6 rfl rfl (conj_c (rfl) (conj_c (⟨rfl, inB_in g2⟩) (trivial))) ?_
    by_cases c4 : 0 ≤ (σ1.1 126 v1.toNatClampNeg)
    · rw [if_pos c4] at h
      refine Rc.ifp c4 ?_
      refine Rc.blk (c := []) (s2 := (31, [(2, .int 0), (0, .ref 117), (1, .int v1)], [], σ1)) 10 rfl rfl (trivial) ?_
      refine Rc.pick [1, 2, 0] (lv2 := [(0, .ref 117), (1, .int v1), (2, .int 0)]) rfl ?_
      exact m_judge_117_L31_ok hd fu _ _ _ _ _ h
    · rw [if_neg c4] at h
      refine Rc.ifn c4 ?_
      refine Rc.blk (c := []) (s2 := (25, [(0, .ref 117), (1, .int v1)], [.int 11, .ref 117], σ1)) 7 rfl rfl (trivial) ?_
      obtain ⟨r3, σ3, hc, h⟩ := bd_some h
      refine Rc.call (Ev.mono d) (v := some (.int r3)) (as := [.ref 117, .int 11]) (r := []) 8 rfl rfl rfl rfl ⟨rfl, Nat.le_of_ble_eq_true rfl⟩ (m_refuse_117_ok (by omega) hc) ?_
      show Rc _ _ _ (28, [(0, .ref 117), (1, .int v1)], [.int r3], σ3) _
      obtain ⟨rfl, rfl⟩ := some_pair h
      exact Rc.ret 9 rfl rfl rfl trivial ⟨rfl, rfl⟩
theorem m_undo_117_b81_ok {d : Nat} (hd : 1 ≤ d) (σ : Sg) (r : Int32) (σ2 : Sg) (h : m_undo_117_b81 σ = some (r, σ2)) : Rc none (Ev MT CT d) sg223 (81, [(0, .ref 117)], [], σ) (fun v s => v = some (.int r) ∧ s = σ2) := by
  unfold m_undo_117_b81 at h
  refine Rc.blk (c := [_]) (s2 := (85, [(0, .ref 117)], [.int (σ.1 117 7)], σ)) 6 rfl rfl (conj_c (rfl) (trivial)) ?_
  obtain ⟨rfl, rfl⟩ := some_pair h
  exact Rc.ret 7 rfl rfl rfl trivial ⟨rfl, rfl⟩
theorem m_undo_117_ok {d : Nat} (hd : 2 ≤ d) {σ : Sg} {r : Int32} {σ2 : Sg} (h : m_undo_117 σ = some (r, σ2)) : Ev MT CT d 223 [.ref 117] σ (fun v s => v = some (.int r) ∧ s = σ2) := by
  obtain ⟨d, rfl⟩ : ∃ e, d = e + 1 := ⟨d - 1, by omega⟩
  refine ⟨Nat.le_of_ble_eq_true rfl, ?_⟩
  show Rc none (Ev MT CT d) sg223 (0, [(0, .ref 117)], [], σ) _
  unfold m_undo_117 at h
  have hd : 1 ≤ d := by omega
  refine Rc.blk (c := [_]) (s2 := (if ¬ (σ.1 117 7) = 0 then 13 else 7, [(0, .ref 117)], [], σ)) 0 rfl rfl (conj_c (rfl) (trivial)) ?_
  by_cases c10 : (σ.1 117 7) = 0
  · rw [if_pos c10] at h
    refine Rc.ifn (fun q => q c10) ?_
    refine Rc.blk (c := []) (s2 := (9, [(0, .ref 117)], [.int 3, .ref 117], σ)) 1 rfl rfl (trivial) ?_
    obtain ⟨r9, σ9, hc, h⟩ := bd_some h
    refine Rc.call (Ev.mono d) (v := some (.int r9)) (as := [.ref 117, .int 3]) (r := []) 2 rfl rfl rfl rfl ⟨rfl, Nat.le_of_ble_eq_true rfl⟩ (m_refuse_117_ok (by omega) hc) ?_
    show Rc _ _ _ (12, [(0, .ref 117)], [.int r9], σ9) _
    obtain ⟨rfl, rfl⟩ := some_pair h
    exact Rc.ret 3 rfl rfl rfl trivial ⟨rfl, rfl⟩
  · rw [if_neg c10] at h
    refine Rc.ifp c10 ?_
    obtain ⟨g1, h⟩ := gd_some h
    obtain ⟨g2, h⟩ := gd_some h
    obtain ⟨g3, h⟩ := gd_some h
    obtain ⟨g4, h⟩ := gd_some h
    refine Rc.blk (c := [_, _, _, _, _, _, _, _, _, _, _, _]) (s2 := (if ((si (si σ 117 7 ((σ.1 117 7) - 1)) 118 ((si σ 117 7 ((σ.1 117 7) - 1)).1 122 (5 * ((si σ 117 7 ((σ.1 117 7) - 1)).1 117 7)).toNatClampNeg).toNatClampNeg ((si σ 117 7 ((σ.1 117 7) - 1)).1 122 ((5 * ((si σ 117 7 ((σ.1 117 7) - 1)).1 117 7)) + 1).toNatClampNeg)).1 122 ((5 * ((si σ 117 7 ((σ.1 117 7) - 1)).1 117 7)) + 2).toNatClampNeg) < 0 then 81 else 60, [(1, .int (5 * ((si σ 117 7 ((σ.1 117 7) - 1)).1 117 7))), (0, .ref 117)], [], si (si σ 117 7 ((σ.1 117 7) - 1)) 118 ((si σ 117 7 ((σ.1 117 7) - 1)).1 122 (5 * ((si σ 117 7 ((σ.1 117 7) - 1)).1 117 7)).toNatClampNeg).toNatClampNeg ((si σ 117 7 ((σ.1 117 7) - 1)).1 122 ((5 * ((si σ 117 7 ((σ.1 117 7) - 1)).1 117 7)) + 1).toNatClampNeg))) 4 rfl rfl (conj_c (rfl) (conj_c (rfl) (conj_c (rfl) (conj_c (rfl) (conj_c (rfl) (conj_c (rfl) (conj_c (⟨rfl, inB_in g1⟩) (conj_c (rfl) (conj_c (⟨rfl, inB_in g2⟩) (conj_c (⟨rfl, inB_in g3⟩) (conj_c (rfl) (conj_c (⟨rfl, inB_in g4⟩) (trivial))))))))))))) ?_
    by_cases c8 : ((si (si σ 117 7 ((σ.1 117 7) - 1)) 118 ((si σ 117 7 ((σ.1 117 7) - 1)).1 122 (5 * ((si σ 117 7 ((σ.1 117 7) - 1)).1 117 7)).toNatClampNeg).toNatClampNeg ((si σ 117 7 ((σ.1 117 7) - 1)).1 122 ((5 * ((si σ 117 7 ((σ.1 117 7) - 1)).1 117 7)) + 1).toNatClampNeg)).1 122 ((5 * ((si σ 117 7 ((σ.1 117 7) - 1)).1 117 7)) + 2).toNatClampNeg) < 0
    · rw [if_pos c8] at h
      refine Rc.ifp c8 ?_
      refine Rc.pick [1] (lv2 := [(0, .ref 117)]) rfl ?_
      exact m_undo_117_b81_ok hd _ _ _ h
    · rw [if_neg c8] at h
      refine Rc.ifn c8 ?_
      obtain ⟨g5, h⟩ := gd_some h
      obtain ⟨g6, h⟩ := gd_some h
      obtain ⟨g7, h⟩ := gd_some h
      refine Rc.blk (c := [_, _, _, _, _, _]) (s2 := (81, [(1, .int (5 * ((si σ 117 7 ((σ.1 117 7) - 1)).1 117 7))), (0, .ref 117)], [], si (si (si σ 117 7 ((σ.1 117 7) - 1)) 118 ((si σ 117 7 ((σ.1 117 7) - 1)).1 122 (5 * ((si σ 117 7 ((σ.1 117 7) - 1)).1 117 7)).toNatClampNeg).toNatClampNeg ((si σ 117 7 ((σ.1 117 7) - 1)).1 122 ((5 * ((si σ 117 7 ((σ.1 117 7) - 1)).1 117 7)) + 1).toNatClampNeg)) 118 ((si (si σ 117 7 ((σ.1 117 7) - 1)) 118 ((si σ 117 7 ((σ.1 117 7) - 1)).1 122 (5 * ((si σ 117 7 ((σ.1 117 7) - 1)).1 117 7)).toNatClampNeg).toNatClampNeg ((si σ 117 7 ((σ.1 117 7) - 1)).1 122 ((5 * ((si σ 117 7 ((σ.1 117 7) - 1)).1 117 7)) + 1).toNatClampNeg)).1 122 ((5 * ((si σ 117 7 ((σ.1 117 7) - 1)).1 117 7)) + 2).toNatClampNeg).toNatClampNeg ((si (si σ 117 7 ((σ.1 117 7) - 1)) 118 ((si σ 117 7 ((σ.1 117 7) - 1)).1 122 (5 * ((si σ 117 7 ((σ.1 117 7) - 1)).1 117 7)).toNatClampNeg).toNatClampNeg ((si σ 117 7 ((σ.1 117 7) - 1)).1 122 ((5 * ((si σ 117 7 ((σ.1 117 7) - 1)).1 117 7)) + 1).toNatClampNeg)).1 122 ((5 * ((si σ 117 7 ((σ.1 117 7) - 1)).1 117 7)) + 3).toNatClampNeg))) 5 rfl rfl (conj_c (rfl) (conj_c (rfl) (conj_c (⟨rfl, inB_in g5⟩) (conj_c (rfl) (conj_c (⟨rfl, inB_in g6⟩) (conj_c (⟨rfl, inB_in g7⟩) (trivial))))))) ?_
      refine Rc.pick [1] (lv2 := [(0, .ref 117)]) rfl ?_
      exact m_undo_117_b81_ok hd _ _ _ h
theorem m_image_117_H2_ok {d : Nat} (hd : 0 ≤ d) {k2 : Int32 → Sg → Option (Int32 × Sg)} (hk2 : ∀ (v1 : Int32) (σ : Sg) (r : Int32) (σ2 : Sg), k2 v1 σ = some (r, σ2) → Rc none (Ev MT CT d) sg224 (2, [(0, .ref 117), (1, .int v1)], [], σ) (fun v s => v = some (.int r) ∧ s = σ2)) (v1 : Int32) (σ : Sg) (r : Int32) (σ2 : Sg) (h : m_image_117_H2 k2 v1 σ = some (r, σ2)) : Rc none (Ev MT CT d) sg224 (2, [(0, .ref 117), (1, .int v1)], [], σ) (fun v s => v = some (.int r) ∧ s = σ2) := by
  unfold m_image_117_H2 at h
  refine Rc.blk (c := []) (s2 := (if 139 ≤ v1 then 27 else 9, [(0, .ref 117), (1, .int v1)], [], σ)) 1 rfl rfl (trivial) ?_
  by_cases c3 : 139 ≤ v1
  · rw [if_pos c3] at h
    refine Rc.ifp c3 ?_
    refine Rc.blk (c := [_, _, _]) (s2 := (38, [(0, .ref 117), (1, .int v1)], [.int ((si σ 117 2 1).1 118 0)], si σ 117 2 1)) 3 rfl rfl (conj_c (⟨rfl, Or.inr rfl⟩) (conj_c (rfl) (conj_c (⟨rfl, inB_in (by decide)⟩) (trivial)))) ?_
    obtain ⟨rfl, rfl⟩ := some_pair h
    exact Rc.ret 4 rfl rfl rfl trivial ⟨rfl, rfl⟩
  · rw [if_neg c3] at h
    refine Rc.ifn c3 ?_
    obtain ⟨g1, h⟩ := gd_some h
    obtain ⟨g2, h⟩ := gd_some h
    refine Rc.blk (c := [_, _, _, _]) (s2 := (2, [(1, .int (v1 + 1)), (0, .ref 117)], [], si σ 119 v1.toNatClampNeg (σ.1 118 v1.toNatClampNeg))) 2 rfl rfl (conj_c (rfl) (conj_c (rfl) (conj_c (⟨rfl, inB_in g1⟩) (conj_c (⟨rfl, inB_in g2⟩) (trivial))))) ?_
    refine Rc.pick [1, 0] (lv2 := [(0, .ref 117), (1, .int (v1 + 1))]) rfl ?_
    exact hk2 _ _ _ _ h
theorem m_image_117_L2_ok {d : Nat} (hd : 0 ≤ d) : ∀ (n : Nat) (v1 : Int32) (σ : Sg) (r : Int32) (σ2 : Sg), m_image_117_L2 n v1 σ = some (r, σ2) → Rc none (Ev MT CT d) sg224 (2, [(0, .ref 117), (1, .int v1)], [], σ) (fun v s => v = some (.int r) ∧ s = σ2)
  | 0, _, _, _, _, h => by cases h
  | n + 1, v1, σ, r, σ2, h => m_image_117_H2_ok hd (m_image_117_L2_ok hd n) v1 σ r σ2 h
theorem m_image_117_ok {d : Nat} (hd : 1 ≤ d) {σ : Sg} {r : Int32} {σ2 : Sg} (h : m_image_117 σ = some (r, σ2)) : Ev MT CT d 224 [.ref 117] σ (fun v s => v = some (.int r) ∧ s = σ2) := by
  obtain ⟨d, rfl⟩ : ∃ e, d = e + 1 := ⟨d - 1, by omega⟩
  refine ⟨Nat.le_of_ble_eq_true rfl, ?_⟩
  show Rc none (Ev MT CT d) sg224 (0, [(0, .ref 117)], [], σ) _
  unfold m_image_117 at h
  have hd : 0 ≤ d := by omega
  refine Rc.blk (c := []) (s2 := (2, [(1, .int 0), (0, .ref 117)], [], σ)) 0 rfl rfl (trivial) ?_
  refine Rc.pick [1, 0] (lv2 := [(0, .ref 117), (1, .int 0)]) rfl ?_
  exact m_image_117_L2_ok hd fu _ _ _ _ h
theorem m_on_117_H15_ok {d : Nat} (hd : 1 ≤ d) {k15 : Int32 → Sg → Option (Int32 × Sg)} (hk15 : ∀ (v1 : Int32) (σ : Sg) (r : Int32) (σ2 : Sg), k15 v1 σ = some (r, σ2) → Rc none (Ev MT CT d) sg225 (15, [(0, .ref 117), (1, .int v1)], [], σ) (fun v s => v = some (.int r) ∧ s = σ2)) (v1 : Int32) (σ : Sg) (r : Int32) (σ2 : Sg) (h : m_on_117_H15 k15 v1 σ = some (r, σ2)) : Rc none (Ev MT CT d) sg225 (15, [(0, .ref 117), (1, .int v1)], [], σ) (fun v s => v = some (.int r) ∧ s = σ2) := by
  unfold m_on_117_H15 at h
  refine Rc.blk (c := []) (s2 := (if 139 ≤ v1 then 40 else 22, [(0, .ref 117), (1, .int v1)], [], σ)) 5 rfl rfl (trivial) ?_
  by_cases c3 : 139 ≤ v1
  · rw [if_pos c3] at h
    refine Rc.ifp c3 ?_
    refine Rc.blk (c := [_, _, _]) (s2 := (51, [(0, .ref 117), (1, .int v1)], [.int ((si σ 117 7 0).1 118 0)], si σ 117 7 0)) 7 rfl rfl (conj_c (rfl) (conj_c (rfl) (conj_c (⟨rfl, inB_in (by decide)⟩) (trivial)))) ?_
    obtain ⟨rfl, rfl⟩ := some_pair h
    exact Rc.ret 8 rfl rfl rfl trivial ⟨rfl, rfl⟩
  · rw [if_neg c3] at h
    refine Rc.ifn c3 ?_
    obtain ⟨g1, h⟩ := gd_some h
    obtain ⟨g2, h⟩ := gd_some h
    refine Rc.blk (c := [_, _, _, _]) (s2 := (15, [(1, .int (v1 + 1)), (0, .ref 117)], [], si σ 118 v1.toNatClampNeg (σ.1 119 v1.toNatClampNeg))) 6 rfl rfl (conj_c (rfl) (conj_c (rfl) (conj_c (⟨rfl, inB_in g1⟩) (conj_c (⟨rfl, inB_in g2⟩) (trivial))))) ?_
    refine Rc.pick [1, 0] (lv2 := [(0, .ref 117), (1, .int (v1 + 1))]) rfl ?_
    exact hk15 _ _ _ _ h
theorem m_on_117_L15_ok {d : Nat} (hd : 1 ≤ d) : ∀ (n : Nat) (v1 : Int32) (σ : Sg) (r : Int32) (σ2 : Sg), m_on_117_L15 n v1 σ = some (r, σ2) → Rc none (Ev MT CT d) sg225 (15, [(0, .ref 117), (1, .int v1)], [], σ) (fun v s => v = some (.int r) ∧ s = σ2)
  | 0, _, _, _, _, h => by cases h
  | n + 1, v1, σ, r, σ2, h => m_on_117_H15_ok hd (m_on_117_L15_ok hd n) v1 σ r σ2 h
theorem m_on_117_ok {d : Nat} (hd : 2 ≤ d) {σ : Sg} {r : Int32} {σ2 : Sg} (h : m_on_117 σ = some (r, σ2)) : Ev MT CT d 225 [.ref 117] σ (fun v s => v = some (.int r) ∧ s = σ2) := by
  obtain ⟨d, rfl⟩ : ∃ e, d = e + 1 := ⟨d - 1, by omega⟩
  refine ⟨Nat.le_of_ble_eq_true rfl, ?_⟩
  show Rc none (Ev MT CT d) sg225 (0, [(0, .ref 117)], [], σ) _
  unfold m_on_117 at h
  have hd : 1 ≤ d := by omega
  refine Rc.blk (c := [_]) (s2 := (if ¬ (σ.1 117 2) = 0 then 13 else 7, [(0, .ref 117)], [], σ)) 0 rfl rfl (conj_c (rfl) (trivial)) ?_
  by_cases c2 : (σ.1 117 2) = 0
  · rw [if_pos c2] at h
    refine Rc.ifn (fun q => q c2) ?_
    refine Rc.blk (c := []) (s2 := (9, [(0, .ref 117)], [.int 3, .ref 117], σ)) 1 rfl rfl (trivial) ?_
    obtain ⟨r1, σ1, hc, h⟩ := bd_some h
    refine Rc.call (Ev.mono d) (v := some (.int r1)) (as := [.ref 117, .int 3]) (r := []) 2 rfl rfl rfl rfl ⟨rfl, Nat.le_of_ble_eq_true rfl⟩ (m_refuse_117_ok (by omega) hc) ?_
    show Rc _ _ _ (12, [(0, .ref 117)], [.int r1], σ1) _
    obtain ⟨rfl, rfl⟩ := some_pair h
    exact Rc.ret 3 rfl rfl rfl trivial ⟨rfl, rfl⟩
  · rw [if_neg c2] at h
    refine Rc.ifp c2 ?_
    refine Rc.blk (c := []) (s2 := (15, [(1, .int 0), (0, .ref 117)], [], σ)) 4 rfl rfl (trivial) ?_
    refine Rc.pick [1, 0] (lv2 := [(0, .ref 117), (1, .int 0)]) rfl ?_
    exact m_on_117_L15_ok hd fu _ _ _ _ h
theorem m_scales_117_b34_ok {d : Nat} (hd : 0 ≤ d) {k4 : Int32 → Int32 → Sg → Option (Int32 × Sg)} (hk4 : ∀ (v1 : Int32) (v2 : Int32) (σ : Sg) (r : Int32) (σ2 : Sg), k4 v1 v2 σ = some (r, σ2) → Rc none (Ev MT CT d) sg226 (4, [(0, .ref 117), (1, .int v1), (2, .int v2)], [], σ) (fun v s => v = some (.int r) ∧ s = σ2)) (v2 : Int32) (s0 : Int32) (s1 : Int32) (σ : Sg) (r : Int32) (σ2 : Sg) (h : m_scales_117_b34 k4 v2 s0 s1 σ = some (r, σ2)) : Rc none (Ev MT CT d) sg226 (34, [(0, .ref 117), (2, .int v2)], [.int s1, .int s0], σ) (fun v s => v = some (.int r) ∧ s = σ2) := by
  unfold m_scales_117_b34 at h
  refine Rc.blk (c := []) (s2 := (4, [(2, .int (v2 + 1)), (1, .int (s0 ||| s1)), (0, .ref 117)], [], σ)) 5 rfl rfl (trivial) ?_
  refine Rc.pick [2, 1, 0] (lv2 := [(0, .ref 117), (1, .int (s0 ||| s1)), (2, .int (v2 + 1))]) rfl ?_
  exact hk4 _ _ _ _ _ h
theorem m_scales_117_H4_ok {d : Nat} (hd : 0 ≤ d) {k4 : Int32 → Int32 → Sg → Option (Int32 × Sg)} (hk4 : ∀ (v1 : Int32) (v2 : Int32) (σ : Sg) (r : Int32) (σ2 : Sg), k4 v1 v2 σ = some (r, σ2) → Rc none (Ev MT CT d) sg226 (4, [(0, .ref 117), (1, .int v1), (2, .int v2)], [], σ) (fun v s => v = some (.int r) ∧ s = σ2)) (v1 : Int32) (v2 : Int32) (σ : Sg) (r : Int32) (σ2 : Sg) (h : m_scales_117_H4 k4 v1 v2 σ = some (r, σ2)) : Rc none (Ev MT CT d) sg226 (4, [(0, .ref 117), (1, .int v1), (2, .int v2)], [], σ) (fun v s => v = some (.int r) ∧ s = σ2) := by
  unfold m_scales_117_H4 at h
  refine Rc.blk (c := [_, _]) (s2 := (if (σ.1 118 0) ≤ v2 then 42 else 14, [(0, .ref 117), (1, .int v1), (2, .int v2)], [], σ)) 1 rfl rfl (conj_c (rfl) (conj_c (⟨rfl, inB_in (by decide)⟩) (trivial))) ?_
  by_cases c3 : (σ.1 118 0) ≤ v2
  · rw [if_pos c3] at h
    refine Rc.ifp c3 ?_
    refine Rc.blk (c := []) (s2 := (43, [(0, .ref 117), (1, .int v1), (2, .int v2)], [.int v1], σ)) 6 rfl rfl (trivial) ?_
    obtain ⟨rfl, rfl⟩ := some_pair h
    exact Rc.ret 7 rfl rfl rfl trivial ⟨rfl, rfl⟩
  · rw [if_neg c3] at h
    refine Rc.ifn c3 ?_
    obtain ⟨g1, h⟩ := gd_some h
    refine Rc.blk (c := [_, _]) (s2 := (if (σ.1 118 (49 + v2).toNatClampNeg) ≤ 0 then 33 else 27, [(0, .ref 117), (1, .int v1), (2, .int v2)], [.int v1], σ)) 2 rfl rfl (conj_c (rfl) (conj_c (⟨rfl, inB_in g1⟩) (trivial))) ?_
    by_cases c2 : (σ.1 118 (49 + v2).toNatClampNeg) ≤ 0
    · rw [if_pos c2] at h
      refine Rc.ifp c2 ?_
      refine Rc.blk (c := []) (s2 := (34, [(0, .ref 117), (1, .int v1), (2, .int v2)], [.int 0, .int v1], σ)) 4 rfl rfl (trivial) ?_
      refine Rc.pick [0, 2] (lv2 := [(0, .ref 117), (2, .int v2)]) rfl ?_
      exact m_scales_117_b34_ok hd hk4 _ _ _ _ _ _ h
    · rw [if_neg c2] at h
      refine Rc.ifn c2 ?_
      refine Rc.blk (c := []) (s2 := (34, [(0, .ref 117), (1, .int v1), (2, .int v2)], [.int ((1 : Int32) <<< (v2 &&& 31)), .int v1], σ)) 3 rfl rfl (trivial) ?_
      refine Rc.pick [0, 2] (lv2 := [(0, .ref 117), (2, .int v2)]) rfl ?_
      exact m_scales_117_b34_ok hd hk4 _ _ _ _ _ _ h
theorem m_scales_117_L4_ok {d : Nat} (hd : 0 ≤ d) : ∀ (n : Nat) (v1 : Int32) (v2 : Int32) (σ : Sg) (r : Int32) (σ2 : Sg), m_scales_117_L4 n v1 v2 σ = some (r, σ2) → Rc none (Ev MT CT d) sg226 (4, [(0, .ref 117), (1, .int v1), (2, .int v2)], [], σ) (fun v s => v = some (.int r) ∧ s = σ2)
  | 0, _, _, _, _, _, h => by cases h
  | n + 1, v1, v2, σ, r, σ2, h => m_scales_117_H4_ok hd (m_scales_117_L4_ok hd n) v1 v2 σ r σ2 h
theorem m_scales_117_ok {d : Nat} (hd : 1 ≤ d) {σ : Sg} {r : Int32} {σ2 : Sg} (h : m_scales_117 σ = some (r, σ2)) : Ev MT CT d 226 [.ref 117] σ (fun v s => v = some (.int r) ∧ s = σ2) := by
  obtain ⟨d, rfl⟩ : ∃ e, d = e + 1 := ⟨d - 1, by omega⟩
  refine ⟨Nat.le_of_ble_eq_true rfl, ?_⟩
  show Rc none (Ev MT CT d) sg226 (0, [(0, .ref 117)], [], σ) _
  unfold m_scales_117 at h
  have hd : 0 ≤ d := by omega
  refine Rc.blk (c := []) (s2 := (4, [(2, .int 0), (1, .int 0), (0, .ref 117)], [], σ)) 0 rfl rfl (trivial) ?_
  refine Rc.pick [2, 1, 0] (lv2 := [(0, .ref 117), (1, .int 0), (2, .int 0)]) rfl ?_
  exact m_scales_117_L4_ok hd fu _ _ _ _ _ h
theorem m_count_117_b75_ok {d : Nat} (hd : 1 ≤ d) (s0 : Int32) (σ : Sg) (r : Int32) (σ2 : Sg) (h : m_count_117_b75 s0 σ = some (r, σ2)) : Rc none (Ev MT CT d) sg227 (75, [], [.int s0], σ) (fun v s => v = some (.int r) ∧ s = σ2) := by
  unfold m_count_117_b75 at h
  obtain ⟨rfl, rfl⟩ := some_pair h
  exact Rc.ret 11 rfl rfl rfl trivial ⟨rfl, rfl⟩
theorem m_count_117_b109_ok {d : Nat} (hd : 1 ≤ d) (s0 : Int32) (σ : Sg) (r : Int32) (σ2 : Sg) (h : m_count_117_b109 s0 σ = some (r, σ2)) : Rc none (Ev MT CT d) sg227 (109, [], [.int s0], σ) (fun v s => v = some (.int r) ∧ s = σ2) := by
  unfold m_count_117_b109 at h
  obtain ⟨rfl, rfl⟩ := some_pair h
  exact Rc.ret 19 rfl rfl rfl trivial ⟨rfl, rfl⟩
theorem m_count_117_ok {d : Nat} (hd : 2 ≤ d) {v1 : Int32} {σ : Sg} {r : Int32} {σ2 : Sg} (h : m_count_117 v1 σ = some (r, σ2)) : Ev MT CT d 227 [.ref 117, .int v1] σ (fun v s => v = some (.int r) ∧ s = σ2) := by
  obtain ⟨d, rfl⟩ : ∃ e, d = e + 1 := ⟨d - 1, by omega⟩
  refine ⟨Nat.le_of_ble_eq_true rfl, ?_⟩
  show Rc none (Ev MT CT d) sg227 (0, [(0, .ref 117), (1, .int v1)], [], σ) _
  unfold m_count_117 at h
  have hd : 1 ≤ d := by omega
  refine Rc.blk (c := []) (s2 := (swt v1 81 0 [36, 43, 48, 53, 76], [(0, .ref 117), (1, .int v1)], [], σ)) 0 rfl rfl (trivial) ?_
  by_cases c1 : v1 = 0
  · rw [if_pos c1] at h
    refine Rc.sw1 (by rw [c1]; rfl) ?_
    show Rc _ _ _ (36, _, _, _) _
    refine Rc.blk (c := [_, _]) (s2 := (42, [(0, .ref 117), (1, .int v1)], [.int (σ.1 118 0)], σ)) 1 rfl rfl (conj_c (rfl) (conj_c (⟨rfl, inB_in (by decide)⟩) (trivial))) ?_
    obtain ⟨rfl, rfl⟩ := some_pair h
    exact Rc.ret 2 rfl rfl rfl trivial ⟨rfl, rfl⟩
  · rw [if_neg c1] at h
    refine Rc.sw2 (fun q => c1 (q.trans rfl)) ?_
    by_cases c2 : v1 = 1
    · rw [if_pos c2] at h
      refine Rc.sw1 (by rw [c2]; rfl) ?_
      show Rc _ _ _ (43, _, _, _) _
      refine Rc.blk (c := [_]) (s2 := (47, [(0, .ref 117), (1, .int v1)], [.int (σ.1 117 5)], σ)) 3 rfl rfl (conj_c (rfl) (trivial)) ?_
      obtain ⟨rfl, rfl⟩ := some_pair h
      exact Rc.ret 4 rfl rfl rfl trivial ⟨rfl, rfl⟩
    · rw [if_neg c2] at h
      refine Rc.sw2 (fun q => c2 (q.trans rfl)) ?_
      by_cases c3 : v1 = 2
      · rw [if_pos c3] at h
        refine Rc.sw1 (by rw [c3]; rfl) ?_
        show Rc _ _ _ (48, _, _, _) _
        refine Rc.blk (c := []) (s2 := (49, [(0, .ref 117), (1, .int v1)], [.ref 117], σ)) 5 rfl rfl (trivial) ?_
        obtain ⟨r4, σ4, hc, h⟩ := bd_some h
        refine Rc.call (Ev.mono d) (v := some (.int r4)) (as := [.ref 117]) (r := []) 6 rfl rfl rfl rfl ⟨rfl, Nat.le_of_ble_eq_true rfl⟩ (m_scales_117_ok (by omega) hc) ?_
        show Rc _ _ _ (52, [(0, .ref 117), (1, .int v1)], [.int r4], σ4) _
        obtain ⟨rfl, rfl⟩ := some_pair h
        exact Rc.ret 7 rfl rfl rfl trivial ⟨rfl, rfl⟩
      · rw [if_neg c3] at h
        refine Rc.sw2 (fun q => c3 (q.trans rfl)) ?_
        by_cases c5 : v1 = 3
        · rw [if_pos c5] at h
          refine Rc.sw1 (by rw [c5]; rfl) ?_
          show Rc _ _ _ (53, _, _, _) _
          refine Rc.blk (c := [_, _]) (s2 := (if ¬ (σ.1 118 66) = 0 then 68 else 63, [(0, .ref 117), (1, .int v1)], [], σ)) 8 rfl rfl (conj_c (rfl) (conj_c (⟨rfl, inB_in (by decide)⟩) (trivial))) ?_
          by_cases c6 : (σ.1 118 66) = 0
          · rw [if_pos c6] at h
            refine Rc.ifn (fun q => q c6) ?_
            refine Rc.blk (c := []) (s2 := (75, [(0, .ref 117), (1, .int v1)], [.int (-9)], σ)) 9 rfl rfl (trivial) ?_
            refine Rc.pick [] (lv2 := []) rfl ?_
            exact m_count_117_b75_ok hd _ _ _ _ h
          · rw [if_neg c6] at h
            refine Rc.ifp c6 ?_
            refine Rc.blk (c := [_, _]) (s2 := (75, [(0, .ref 117), (1, .int v1)], [.int (σ.1 118 65)], σ)) 10 rfl rfl (conj_c (rfl) (conj_c (⟨rfl, inB_in (by decide)⟩) (trivial))) ?_
            refine Rc.pick [] (lv2 := []) rfl ?_
            exact m_count_117_b75_ok hd _ _ _ _ h
        · rw [if_neg c5] at h
          refine Rc.sw2 (fun q => c5 (q.trans rfl)) ?_
          by_cases c7 : v1 = 4
          · rw [if_pos c7] at h
            refine Rc.sw1 (by rw [c7]; rfl) ?_
            show Rc _ _ _ (76, _, _, _) _
            refine Rc.blk (c := [_]) (s2 := (80, [(0, .ref 117), (1, .int v1)], [.int (σ.1 117 7)], σ)) 12 rfl rfl (conj_c (rfl) (trivial)) ?_
            obtain ⟨rfl, rfl⟩ := some_pair h
            exact Rc.ret 13 rfl rfl rfl trivial ⟨rfl, rfl⟩
          · rw [if_neg c7] at h
            refine Rc.sw2 (fun q => c7 (q.trans rfl)) ?_
            refine Rc.sw0 ?_
            refine Rc.blk (c := []) (s2 := (89, [(0, .ref 117), (1, .int v1)], [.long 16, .long 11, .long v1.toInt64], σ)) 14 rfl rfl (trivial) ?_
            obtain ⟨r8, σ8, hc, h⟩ := bd_some h
            refine Rc.call (Ev.mono d) (v := some (.int r8)) (as := [.long v1.toInt64, .long 11, .long 16]) (r := []) 15 rfl rfl rfl rfl (Nat.le_of_ble_eq_true rfl) (m_isIn_s_ok (by omega) hc) ?_
            show Rc _ _ _ (92, [(0, .ref 117), (1, .int v1)], [.int r8], σ8) _
            refine Rc.blk (c := []) (s2 := (if r8 = 0 then 107 else 95, [(0, .ref 117), (1, .int v1)], [], σ8)) 16 rfl rfl (trivial) ?_
            by_cases c10 : r8 = 0
            · rw [if_pos c10] at h
              refine Rc.ifp c10 ?_
              refine Rc.blk (c := []) (s2 := (109, [(0, .ref 117), (1, .int v1)], [.int (-9)], σ8)) 18 rfl rfl (trivial) ?_
              refine Rc.pick [] (lv2 := []) rfl ?_
              exact m_count_117_b109_ok hd _ _ _ _ h
            · rw [if_neg c10] at h
              refine Rc.ifn c10 ?_
              obtain ⟨g9, h⟩ := gd_some h
              refine Rc.blk (c := [_, _]) (s2 := (109, [(0, .ref 117), (1, .int v1)], [.int (σ8.1 120 (v1 - 10).toNatClampNeg)], σ8)) 17 rfl rfl (conj_c (rfl) (conj_c (⟨rfl, inB_in g9⟩) (trivial))) ?_
              refine Rc.pick [] (lv2 := []) rfl ?_
              exact m_count_117_b109_ok hd _ _ _ _ h
