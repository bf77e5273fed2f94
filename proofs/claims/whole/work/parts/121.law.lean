theorem sgW_ok : ∀ L ∈ sgW, ∀ en ∈ L, EntOK MT RL code 4 en ∧ RetOK (some .boolean) en := chkM_ok lkRL_ok chW
theorem lcmp_self (x : Int64) : lg_cmp x x = 0 := by
  unfold lg_cmp
  rw [if_neg (by exact fun h => Int64.lt_irrefl h), if_pos rfl]
theorem law_c0 {d : Nat} (hd : 70 ≤ d) {L : Nat} {xs : Nat → Int32} {i : Int32} (g1 : vp_in (i + 1) L) {σ σ1 σ2 : Sg} {r : Int32} (h1 : j_letter_0 (xs (i + 1).toNatClampNeg) σ = some (r, σ1)) (h2 : m_letter_117 (xs (i + 1).toNatClampNeg) σ1 = some (r, σ2)) {Q : Option Value → Sg → Prop} (hk : Rc (some (L, xs)) (Ev MT CT d) sgW (1342, [(0, .ref 2000), (1, .ref 0), (2, .ref 117), (3, .int i)], [], σ2) Q) : Rc (some (L, xs)) (Ev MT CT d) sgW (208, [(0, .ref 2000), (1, .ref 0), (2, .ref 117), (3, .int i)], [], σ) Q := by
  refine Rc.blk (c := [_]) (s2 := (214, [(0, .ref 2000), (1, .ref 0), (2, .ref 117), (3, .int i)], [.int (xs (i + 1).toNatClampNeg), .ref 0], σ)) 3 rfl rfl (conj_c (⟨rfl, g1⟩) (trivial)) ?_
  refine Rc.call (Ev.mono d) (v := some (.int r)) (as := [.ref 0, .int (xs (i + 1).toNatClampNeg)]) (r := []) 4 rfl rfl rfl rfl ⟨rfl, Nat.le_of_ble_eq_true rfl⟩ (j_letter_0_ok (by omega) h1) ?_
  show Rc _ _ _ (217, [(0, .ref 2000), (1, .ref 0), (2, .ref 117), (3, .int i)], [.int r], σ1) _
  refine Rc.blk (c := [_]) (s2 := (223, [(0, .ref 2000), (1, .ref 0), (2, .ref 117), (3, .int i)], [.int (xs (i + 1).toNatClampNeg), .ref 117, .int r], σ1)) 5 rfl rfl (conj_c (⟨rfl, g1⟩) (trivial)) ?_
  refine Rc.call (Ev.mono d) (v := some (.int r)) (as := [.ref 117, .int (xs (i + 1).toNatClampNeg)]) (r := [.int r]) 6 rfl rfl rfl rfl ⟨rfl, Nat.le_of_ble_eq_true rfl⟩ (m_letter_117_ok (by omega) h2) ?_
  show Rc _ _ _ (226, [(0, .ref 2000), (1, .ref 0), (2, .ref 117), (3, .int i)], [.int r, .int r], σ2) _
  refine Rc.blk (s2 := (if r = r then 1342 else 229, [(0, .ref 2000), (1, .ref 0), (2, .ref 117), (3, .int i)], [], σ2)) 7 rfl rfl (trivial) ?_
  refine Rc.ifp rfl ?_
  exact hk
theorem law_c1 {d : Nat} (hd : 70 ≤ d) {L : Nat} {xs : Nat → Int32} {i : Int32} (g1 : vp_in (i + 1) L) {σ σ1 σ2 : Sg} {r : Int32} (h1 : j_quantity_0 (xs (i + 1).toNatClampNeg) σ = some (r, σ1)) (h2 : m_quantity_117 (xs (i + 1).toNatClampNeg) σ1 = some (r, σ2)) {Q : Option Value → Sg → Prop} (hk : Rc (some (L, xs)) (Ev MT CT d) sgW (1342, [(0, .ref 2000), (1, .ref 0), (2, .ref 117), (3, .int i)], [], σ2) Q) : Rc (some (L, xs)) (Ev MT CT d) sgW (231, [(0, .ref 2000), (1, .ref 0), (2, .ref 117), (3, .int i)], [], σ) Q := by
  refine Rc.blk (c := [_]) (s2 := (237, [(0, .ref 2000), (1, .ref 0), (2, .ref 117), (3, .int i)], [.int (xs (i + 1).toNatClampNeg), .ref 0], σ)) 10 rfl rfl (conj_c (⟨rfl, g1⟩) (trivial)) ?_
  refine Rc.call (Ev.mono d) (v := some (.int r)) (as := [.ref 0, .int (xs (i + 1).toNatClampNeg)]) (r := []) 11 rfl rfl rfl rfl ⟨rfl, Nat.le_of_ble_eq_true rfl⟩ (j_quantity_0_ok (by omega) h1) ?_
  show Rc _ _ _ (240, [(0, .ref 2000), (1, .ref 0), (2, .ref 117), (3, .int i)], [.int r], σ1) _
  refine Rc.blk (c := [_]) (s2 := (246, [(0, .ref 2000), (1, .ref 0), (2, .ref 117), (3, .int i)], [.int (xs (i + 1).toNatClampNeg), .ref 117, .int r], σ1)) 12 rfl rfl (conj_c (⟨rfl, g1⟩) (trivial)) ?_
  refine Rc.call (Ev.mono d) (v := some (.int r)) (as := [.ref 117, .int (xs (i + 1).toNatClampNeg)]) (r := [.int r]) 13 rfl rfl rfl rfl ⟨rfl, Nat.le_of_ble_eq_true rfl⟩ (m_quantity_117_ok (by omega) h2) ?_
  show Rc _ _ _ (249, [(0, .ref 2000), (1, .ref 0), (2, .ref 117), (3, .int i)], [.int r, .int r], σ2) _
  refine Rc.blk (s2 := (if r = r then 1342 else 252, [(0, .ref 2000), (1, .ref 0), (2, .ref 117), (3, .int i)], [], σ2)) 14 rfl rfl (trivial) ?_
  refine Rc.ifp rfl ?_
  exact hk
theorem law_c2 {d : Nat} (hd : 70 ≤ d) {L : Nat} {xs : Nat → Int32} {i : Int32} (g1 : vp_in (i + 1) L) (g2 : vp_in (i + 2) L) (g3 : vp_in (i + 3) L) {σ σ1 σ2 : Sg} {r : Int32} (h1 : j_tell_0 (xs (i + 1).toNatClampNeg) (xs (i + 2).toNatClampNeg) (xs (i + 3).toNatClampNeg) σ = some (r, σ1)) (h2 : m_tell_117 (xs (i + 1).toNatClampNeg) (xs (i + 2).toNatClampNeg) (xs (i + 3).toNatClampNeg) σ1 = some (r, σ2)) {Q : Option Value → Sg → Prop} (hk : Rc (some (L, xs)) (Ev MT CT d) sgW (1342, [(0, .ref 2000), (1, .ref 0), (2, .ref 117), (3, .int i)], [], σ2) Q) : Rc (some (L, xs)) (Ev MT CT d) sgW (254, [(0, .ref 2000), (1, .ref 0), (2, .ref 117), (3, .int i)], [], σ) Q := by
  refine Rc.blk (c := [_, _, _]) (s2 := (270, [(0, .ref 2000), (1, .ref 0), (2, .ref 117), (3, .int i)], [.int (xs (i + 3).toNatClampNeg), .int (xs (i + 2).toNatClampNeg), .int (xs (i + 1).toNatClampNeg), .ref 0], σ)) 17 rfl rfl (conj_c (⟨rfl, g1⟩) (conj_c (⟨rfl, g2⟩) (conj_c (⟨rfl, g3⟩) (trivial)))) ?_
  refine Rc.call (Ev.mono d) (v := some (.int r)) (as := [.ref 0, .int (xs (i + 1).toNatClampNeg), .int (xs (i + 2).toNatClampNeg), .int (xs (i + 3).toNatClampNeg)]) (r := []) 18 rfl rfl rfl rfl ⟨rfl, Nat.le_of_ble_eq_true rfl⟩ (j_tell_0_ok (by omega) h1) ?_
  show Rc _ _ _ (273, [(0, .ref 2000), (1, .ref 0), (2, .ref 117), (3, .int i)], [.int r], σ1) _
  refine Rc.blk (c := [_, _, _]) (s2 := (289, [(0, .ref 2000), (1, .ref 0), (2, .ref 117), (3, .int i)], [.int (xs (i + 3).toNatClampNeg), .int (xs (i + 2).toNatClampNeg), .int (xs (i + 1).toNatClampNeg), .ref 117, .int r], σ1)) 19 rfl rfl (conj_c (⟨rfl, g1⟩) (conj_c (⟨rfl, g2⟩) (conj_c (⟨rfl, g3⟩) (trivial)))) ?_
  refine Rc.call (Ev.mono d) (v := some (.int r)) (as := [.ref 117, .int (xs (i + 1).toNatClampNeg), .int (xs (i + 2).toNatClampNeg), .int (xs (i + 3).toNatClampNeg)]) (r := [.int r]) 20 rfl rfl rfl rfl ⟨rfl, Nat.le_of_ble_eq_true rfl⟩ (m_tell_117_ok (by omega) h2) ?_
  show Rc _ _ _ (292, [(0, .ref 2000), (1, .ref 0), (2, .ref 117), (3, .int i)], [.int r, .int r], σ2) _
  refine Rc.blk (s2 := (if r = r then 1342 else 295, [(0, .ref 2000), (1, .ref 0), (2, .ref 117), (3, .int i)], [], σ2)) 21 rfl rfl (trivial) ?_
  refine Rc.ifp rfl ?_
  exact hk
theorem law_c3 {d : Nat} (hd : 70 ≤ d) {L : Nat} {xs : Nat → Int32} {i : Int32} (g1 : vp_in (i + 1) L) (g2 : vp_in (i + 2) L) {σ σ1 σ2 : Sg} {r : Int32} (h1 : j_turn_0 (xs (i + 1).toNatClampNeg) (xs (i + 2).toNatClampNeg) σ = some (r, σ1)) (h2 : m_turn_117 (xs (i + 1).toNatClampNeg) (xs (i + 2).toNatClampNeg) σ1 = some (r, σ2)) {Q : Option Value → Sg → Prop} (hk : Rc (some (L, xs)) (Ev MT CT d) sgW (1342, [(0, .ref 2000), (1, .ref 0), (2, .ref 117), (3, .int i)], [], σ2) Q) : Rc (some (L, xs)) (Ev MT CT d) sgW (297, [(0, .ref 2000), (1, .ref 0), (2, .ref 117), (3, .int i)], [], σ) Q := by
  refine Rc.blk (c := [_, _]) (s2 := (308, [(0, .ref 2000), (1, .ref 0), (2, .ref 117), (3, .int i)], [.int (xs (i + 2).toNatClampNeg), .int (xs (i + 1).toNatClampNeg), .ref 0], σ)) 24 rfl rfl (conj_c (⟨rfl, g1⟩) (conj_c (⟨rfl, g2⟩) (trivial))) ?_
  refine Rc.call (Ev.mono d) (v := some (.int r)) (as := [.ref 0, .int (xs (i + 1).toNatClampNeg), .int (xs (i + 2).toNatClampNeg)]) (r := []) 25 rfl rfl rfl rfl ⟨rfl, Nat.le_of_ble_eq_true rfl⟩ (j_turn_0_ok (by omega) h1) ?_
  show Rc _ _ _ (311, [(0, .ref 2000), (1, .ref 0), (2, .ref 117), (3, .int i)], [.int r], σ1) _
  refine Rc.blk (c := [_, _]) (s2 := (322, [(0, .ref 2000), (1, .ref 0), (2, .ref 117), (3, .int i)], [.int (xs (i + 2).toNatClampNeg), .int (xs (i + 1).toNatClampNeg), .ref 117, .int r], σ1)) 26 rfl rfl (conj_c (⟨rfl, g1⟩) (conj_c (⟨rfl, g2⟩) (trivial))) ?_
  refine Rc.call (Ev.mono d) (v := some (.int r)) (as := [.ref 117, .int (xs (i + 1).toNatClampNeg), .int (xs (i + 2).toNatClampNeg)]) (r := [.int r]) 27 rfl rfl rfl rfl ⟨rfl, Nat.le_of_ble_eq_true rfl⟩ (m_turn_117_ok (by omega) h2) ?_
  show Rc _ _ _ (325, [(0, .ref 2000), (1, .ref 0), (2, .ref 117), (3, .int i)], [.int r, .int r], σ2) _
  refine Rc.blk (s2 := (if r = r then 1342 else 328, [(0, .ref 2000), (1, .ref 0), (2, .ref 117), (3, .int i)], [], σ2)) 28 rfl rfl (trivial) ?_
  refine Rc.ifp rfl ?_
  exact hk
theorem law_c4 {d : Nat} (hd : 70 ≤ d) {L : Nat} {xs : Nat → Int32} {i : Int32} (g1 : vp_in (i + 1) L) (g2 : vp_in (i + 2) L) {σ σ1 σ2 : Sg} {r : Int32} (h1 : j_of_0 (xs (i + 1).toNatClampNeg) (xs (i + 2).toNatClampNeg) σ = some (r, σ1)) (h2 : m_of_117 (xs (i + 1).toNatClampNeg) (xs (i + 2).toNatClampNeg) σ1 = some (r, σ2)) {Q : Option Value → Sg → Prop} (hk : Rc (some (L, xs)) (Ev MT CT d) sgW (1342, [(0, .ref 2000), (1, .ref 0), (2, .ref 117), (3, .int i)], [], σ2) Q) : Rc (some (L, xs)) (Ev MT CT d) sgW (330, [(0, .ref 2000), (1, .ref 0), (2, .ref 117), (3, .int i)], [], σ) Q := by
  refine Rc.blk (c := [_, _]) (s2 := (341, [(0, .ref 2000), (1, .ref 0), (2, .ref 117), (3, .int i)], [.int (xs (i + 2).toNatClampNeg), .int (xs (i + 1).toNatClampNeg), .ref 0], σ)) 31 rfl rfl (conj_c (⟨rfl, g1⟩) (conj_c (⟨rfl, g2⟩) (trivial))) ?_
  refine Rc.call (Ev.mono d) (v := some (.int r)) (as := [.ref 0, .int (xs (i + 1).toNatClampNeg), .int (xs (i + 2).toNatClampNeg)]) (r := []) 32 rfl rfl rfl rfl ⟨rfl, Nat.le_of_ble_eq_true rfl⟩ (j_of_0_ok (by omega) h1) ?_
  show Rc _ _ _ (344, [(0, .ref 2000), (1, .ref 0), (2, .ref 117), (3, .int i)], [.int r], σ1) _
  refine Rc.blk (c := [_, _]) (s2 := (355, [(0, .ref 2000), (1, .ref 0), (2, .ref 117), (3, .int i)], [.int (xs (i + 2).toNatClampNeg), .int (xs (i + 1).toNatClampNeg), .ref 117, .int r], σ1)) 33 rfl rfl (conj_c (⟨rfl, g1⟩) (conj_c (⟨rfl, g2⟩) (trivial))) ?_
  refine Rc.call (Ev.mono d) (v := some (.int r)) (as := [.ref 117, .int (xs (i + 1).toNatClampNeg), .int (xs (i + 2).toNatClampNeg)]) (r := [.int r]) 34 rfl rfl rfl rfl ⟨rfl, Nat.le_of_ble_eq_true rfl⟩ (m_of_117_ok (by omega) h2) ?_
  show Rc _ _ _ (358, [(0, .ref 2000), (1, .ref 0), (2, .ref 117), (3, .int i)], [.int r, .int r], σ2) _
  refine Rc.blk (s2 := (if r = r then 1342 else 361, [(0, .ref 2000), (1, .ref 0), (2, .ref 117), (3, .int i)], [], σ2)) 35 rfl rfl (trivial) ?_
  refine Rc.ifp rfl ?_
  exact hk
theorem law_c5 {d : Nat} (hd : 70 ≤ d) {L : Nat} {xs : Nat → Int32} {i : Int32} (g1 : vp_in (i + 1) L) {σ σ1 σ2 : Sg} {r : Int32} (h1 : j_twin_0 (xs (i + 1).toNatClampNeg) σ = some (r, σ1)) (h2 : m_twin_117 (xs (i + 1).toNatClampNeg) σ1 = some (r, σ2)) {Q : Option Value → Sg → Prop} (hk : Rc (some (L, xs)) (Ev MT CT d) sgW (1342, [(0, .ref 2000), (1, .ref 0), (2, .ref 117), (3, .int i)], [], σ2) Q) : Rc (some (L, xs)) (Ev MT CT d) sgW (363, [(0, .ref 2000), (1, .ref 0), (2, .ref 117), (3, .int i)], [], σ) Q := by
  refine Rc.blk (c := [_]) (s2 := (369, [(0, .ref 2000), (1, .ref 0), (2, .ref 117), (3, .int i)], [.int (xs (i + 1).toNatClampNeg), .ref 0], σ)) 38 rfl rfl (conj_c (⟨rfl, g1⟩) (trivial)) ?_
  refine Rc.call (Ev.mono d) (v := some (.int r)) (as := [.ref 0, .int (xs (i + 1).toNatClampNeg)]) (r := []) 39 rfl rfl rfl rfl ⟨rfl, Nat.le_of_ble_eq_true rfl⟩ (j_twin_0_ok (by omega) h1) ?_
  show Rc _ _ _ (372, [(0, .ref 2000), (1, .ref 0), (2, .ref 117), (3, .int i)], [.int r], σ1) _
  refine Rc.blk (c := [_]) (s2 := (378, [(0, .ref 2000), (1, .ref 0), (2, .ref 117), (3, .int i)], [.int (xs (i + 1).toNatClampNeg), .ref 117, .int r], σ1)) 40 rfl rfl (conj_c (⟨rfl, g1⟩) (trivial)) ?_
  refine Rc.call (Ev.mono d) (v := some (.int r)) (as := [.ref 117, .int (xs (i + 1).toNatClampNeg)]) (r := [.int r]) 41 rfl rfl rfl rfl ⟨rfl, Nat.le_of_ble_eq_true rfl⟩ (m_twin_117_ok (by omega) h2) ?_
  show Rc _ _ _ (381, [(0, .ref 2000), (1, .ref 0), (2, .ref 117), (3, .int i)], [.int r, .int r], σ2) _
  refine Rc.blk (s2 := (if r = r then 1342 else 384, [(0, .ref 2000), (1, .ref 0), (2, .ref 117), (3, .int i)], [], σ2)) 42 rfl rfl (trivial) ?_
  refine Rc.ifp rfl ?_
  exact hk
theorem law_c6 {d : Nat} (hd : 70 ≤ d) {L : Nat} {xs : Nat → Int32} {i : Int32} (g1 : vp_in (i + 1) L) (g2 : vp_in (i + 2) L) {σ σ1 σ2 : Sg} {r : Int32} (h1 : j_taken_0 (xs (i + 1).toNatClampNeg) (xs (i + 2).toNatClampNeg) σ = some (r, σ1)) (h2 : m_taken_117 (xs (i + 1).toNatClampNeg) (xs (i + 2).toNatClampNeg) σ1 = some (r, σ2)) {Q : Option Value → Sg → Prop} (hk : Rc (some (L, xs)) (Ev MT CT d) sgW (1342, [(0, .ref 2000), (1, .ref 0), (2, .ref 117), (3, .int i)], [], σ2) Q) : Rc (some (L, xs)) (Ev MT CT d) sgW (386, [(0, .ref 2000), (1, .ref 0), (2, .ref 117), (3, .int i)], [], σ) Q := by
  refine Rc.blk (c := [_, _]) (s2 := (397, [(0, .ref 2000), (1, .ref 0), (2, .ref 117), (3, .int i)], [.int (xs (i + 2).toNatClampNeg), .int (xs (i + 1).toNatClampNeg), .ref 0], σ)) 45 rfl rfl (conj_c (⟨rfl, g1⟩) (conj_c (⟨rfl, g2⟩) (trivial))) ?_
  refine Rc.call (Ev.mono d) (v := some (.int r)) (as := [.ref 0, .int (xs (i + 1).toNatClampNeg), .int (xs (i + 2).toNatClampNeg)]) (r := []) 46 rfl rfl rfl rfl ⟨rfl, Nat.le_of_ble_eq_true rfl⟩ (j_taken_0_ok (by omega) h1) ?_
  show Rc _ _ _ (400, [(0, .ref 2000), (1, .ref 0), (2, .ref 117), (3, .int i)], [.int r], σ1) _
  refine Rc.blk (c := [_, _]) (s2 := (411, [(0, .ref 2000), (1, .ref 0), (2, .ref 117), (3, .int i)], [.int (xs (i + 2).toNatClampNeg), .int (xs (i + 1).toNatClampNeg), .ref 117, .int r], σ1)) 47 rfl rfl (conj_c (⟨rfl, g1⟩) (conj_c (⟨rfl, g2⟩) (trivial))) ?_
  refine Rc.call (Ev.mono d) (v := some (.int r)) (as := [.ref 117, .int (xs (i + 1).toNatClampNeg), .int (xs (i + 2).toNatClampNeg)]) (r := [.int r]) 48 rfl rfl rfl rfl ⟨rfl, Nat.le_of_ble_eq_true rfl⟩ (m_taken_117_ok (by omega) h2) ?_
  show Rc _ _ _ (414, [(0, .ref 2000), (1, .ref 0), (2, .ref 117), (3, .int i)], [.int r, .int r], σ2) _
  refine Rc.blk (s2 := (if r = r then 1342 else 417, [(0, .ref 2000), (1, .ref 0), (2, .ref 117), (3, .int i)], [], σ2)) 49 rfl rfl (trivial) ?_
  refine Rc.ifp rfl ?_
  exact hk
theorem law_c7 {d : Nat} (hd : 70 ≤ d) {L : Nat} {xs : Nat → Int32} {i : Int32} (g1 : vp_in (i + 1) L) {σ σ1 σ2 : Sg} {r : Int32} (h1 : j_rank_0 (xs (i + 1).toNatClampNeg) σ = some (r, σ1)) (h2 : m_rank_117 (xs (i + 1).toNatClampNeg) σ1 = some (r, σ2)) {Q : Option Value → Sg → Prop} (hk : Rc (some (L, xs)) (Ev MT CT d) sgW (1342, [(0, .ref 2000), (1, .ref 0), (2, .ref 117), (3, .int i)], [], σ2) Q) : Rc (some (L, xs)) (Ev MT CT d) sgW (419, [(0, .ref 2000), (1, .ref 0), (2, .ref 117), (3, .int i)], [], σ) Q := by
  refine Rc.blk (c := [_]) (s2 := (425, [(0, .ref 2000), (1, .ref 0), (2, .ref 117), (3, .int i)], [.int (xs (i + 1).toNatClampNeg), .ref 0], σ)) 52 rfl rfl (conj_c (⟨rfl, g1⟩) (trivial)) ?_
  refine Rc.call (Ev.mono d) (v := some (.int r)) (as := [.ref 0, .int (xs (i + 1).toNatClampNeg)]) (r := []) 53 rfl rfl rfl rfl ⟨rfl, Nat.le_of_ble_eq_true rfl⟩ (j_rank_0_ok (by omega) h1) ?_
  show Rc _ _ _ (428, [(0, .ref 2000), (1, .ref 0), (2, .ref 117), (3, .int i)], [.int r], σ1) _
  refine Rc.blk (c := [_]) (s2 := (434, [(0, .ref 2000), (1, .ref 0), (2, .ref 117), (3, .int i)], [.int (xs (i + 1).toNatClampNeg), .ref 117, .int r], σ1)) 54 rfl rfl (conj_c (⟨rfl, g1⟩) (trivial)) ?_
  refine Rc.call (Ev.mono d) (v := some (.int r)) (as := [.ref 117, .int (xs (i + 1).toNatClampNeg)]) (r := [.int r]) 55 rfl rfl rfl rfl ⟨rfl, Nat.le_of_ble_eq_true rfl⟩ (m_rank_117_ok (by omega) h2) ?_
  show Rc _ _ _ (437, [(0, .ref 2000), (1, .ref 0), (2, .ref 117), (3, .int i)], [.int r, .int r], σ2) _
  refine Rc.blk (s2 := (if r = r then 1342 else 440, [(0, .ref 2000), (1, .ref 0), (2, .ref 117), (3, .int i)], [], σ2)) 56 rfl rfl (trivial) ?_
  refine Rc.ifp rfl ?_
  exact hk
theorem law_c8 {d : Nat} (hd : 70 ≤ d) {L : Nat} {xs : Nat → Int32} {i : Int32} (g1 : vp_in (i + 1) L) (g2 : vp_in (i + 2) L) {σ σ1 σ2 : Sg} {r : Int32} (h1 : j_group_0 (xs (i + 1).toNatClampNeg) (xs (i + 2).toNatClampNeg) σ = some (r, σ1)) (h2 : m_group_117 (xs (i + 1).toNatClampNeg) (xs (i + 2).toNatClampNeg) σ1 = some (r, σ2)) {Q : Option Value → Sg → Prop} (hk : Rc (some (L, xs)) (Ev MT CT d) sgW (1342, [(0, .ref 2000), (1, .ref 0), (2, .ref 117), (3, .int i)], [], σ2) Q) : Rc (some (L, xs)) (Ev MT CT d) sgW (442, [(0, .ref 2000), (1, .ref 0), (2, .ref 117), (3, .int i)], [], σ) Q := by
  refine Rc.blk (c := [_, _]) (s2 := (453, [(0, .ref 2000), (1, .ref 0), (2, .ref 117), (3, .int i)], [.int (xs (i + 2).toNatClampNeg), .int (xs (i + 1).toNatClampNeg), .ref 0], σ)) 59 rfl rfl (conj_c (⟨rfl, g1⟩) (conj_c (⟨rfl, g2⟩) (trivial))) ?_
  refine Rc.call (Ev.mono d) (v := some (.int r)) (as := [.ref 0, .int (xs (i + 1).toNatClampNeg), .int (xs (i + 2).toNatClampNeg)]) (r := []) 60 rfl rfl rfl rfl ⟨rfl, Nat.le_of_ble_eq_true rfl⟩ (j_group_0_ok (by omega) h1) ?_
  show Rc _ _ _ (456, [(0, .ref 2000), (1, .ref 0), (2, .ref 117), (3, .int i)], [.int r], σ1) _
  refine Rc.blk (c := [_, _]) (s2 := (467, [(0, .ref 2000), (1, .ref 0), (2, .ref 117), (3, .int i)], [.int (xs (i + 2).toNatClampNeg), .int (xs (i + 1).toNatClampNeg), .ref 117, .int r], σ1)) 61 rfl rfl (conj_c (⟨rfl, g1⟩) (conj_c (⟨rfl, g2⟩) (trivial))) ?_
  refine Rc.call (Ev.mono d) (v := some (.int r)) (as := [.ref 117, .int (xs (i + 1).toNatClampNeg), .int (xs (i + 2).toNatClampNeg)]) (r := [.int r]) 62 rfl rfl rfl rfl ⟨rfl, Nat.le_of_ble_eq_true rfl⟩ (m_group_117_ok (by omega) h2) ?_
  show Rc _ _ _ (470, [(0, .ref 2000), (1, .ref 0), (2, .ref 117), (3, .int i)], [.int r, .int r], σ2) _
  refine Rc.blk (s2 := (if r = r then 1342 else 473, [(0, .ref 2000), (1, .ref 0), (2, .ref 117), (3, .int i)], [], σ2)) 63 rfl rfl (trivial) ?_
  refine Rc.ifp rfl ?_
  exact hk
theorem law_c9 {d : Nat} (hd : 70 ≤ d) {L : Nat} {xs : Nat → Int32} {i : Int32} (g1 : vp_in (i + 1) L) {σ σ1 σ2 : Sg} {r : Int32} (h1 : j_pure_0 (xs (i + 1).toNatClampNeg) σ = some (r, σ1)) (h2 : m_pure_117 (xs (i + 1).toNatClampNeg) σ1 = some (r, σ2)) {Q : Option Value → Sg → Prop} (hk : Rc (some (L, xs)) (Ev MT CT d) sgW (1342, [(0, .ref 2000), (1, .ref 0), (2, .ref 117), (3, .int i)], [], σ2) Q) : Rc (some (L, xs)) (Ev MT CT d) sgW (475, [(0, .ref 2000), (1, .ref 0), (2, .ref 117), (3, .int i)], [], σ) Q := by
  refine Rc.blk (c := [_]) (s2 := (481, [(0, .ref 2000), (1, .ref 0), (2, .ref 117), (3, .int i)], [.int (xs (i + 1).toNatClampNeg), .ref 0], σ)) 66 rfl rfl (conj_c (⟨rfl, g1⟩) (trivial)) ?_
  refine Rc.call (Ev.mono d) (v := some (.int r)) (as := [.ref 0, .int (xs (i + 1).toNatClampNeg)]) (r := []) 67 rfl rfl rfl rfl ⟨rfl, Nat.le_of_ble_eq_true rfl⟩ (j_pure_0_ok (by omega) h1) ?_
  show Rc _ _ _ (484, [(0, .ref 2000), (1, .ref 0), (2, .ref 117), (3, .int i)], [.int r], σ1) _
  refine Rc.blk (c := [_]) (s2 := (490, [(0, .ref 2000), (1, .ref 0), (2, .ref 117), (3, .int i)], [.int (xs (i + 1).toNatClampNeg), .ref 117, .int r], σ1)) 68 rfl rfl (conj_c (⟨rfl, g1⟩) (trivial)) ?_
  refine Rc.call (Ev.mono d) (v := some (.int r)) (as := [.ref 117, .int (xs (i + 1).toNatClampNeg)]) (r := [.int r]) 69 rfl rfl rfl rfl ⟨rfl, Nat.le_of_ble_eq_true rfl⟩ (m_pure_117_ok (by omega) h2) ?_
  show Rc _ _ _ (493, [(0, .ref 2000), (1, .ref 0), (2, .ref 117), (3, .int i)], [.int r, .int r], σ2) _
  refine Rc.blk (s2 := (if r = r then 1342 else 496, [(0, .ref 2000), (1, .ref 0), (2, .ref 117), (3, .int i)], [], σ2)) 70 rfl rfl (trivial) ?_
  refine Rc.ifp rfl ?_
  exact hk
theorem law_c10 {d : Nat} (hd : 70 ≤ d) {L : Nat} {xs : Nat → Int32} {i : Int32} (g1 : vp_in (i + 1) L) (g2 : vp_in (i + 2) L) (g3 : vp_in (i + 3) L) {σ σ1 σ2 : Sg} {r : Int64} (h1 : j_cover_0 (xs (i + 1).toNatClampNeg) (xs (i + 2).toNatClampNeg) (xs (i + 3).toNatClampNeg) σ = some (r, σ1)) (h2 : m_cover_117 (xs (i + 1).toNatClampNeg) (xs (i + 2).toNatClampNeg) (xs (i + 3).toNatClampNeg) σ1 = some (r, σ2)) {Q : Option Value → Sg → Prop} (hk : Rc (some (L, xs)) (Ev MT CT d) sgW (1342, [(0, .ref 2000), (1, .ref 0), (2, .ref 117), (3, .int i)], [], σ2) Q) : Rc (some (L, xs)) (Ev MT CT d) sgW (498, [(0, .ref 2000), (1, .ref 0), (2, .ref 117), (3, .int i)], [], σ) Q := by
  refine Rc.blk (c := [_, _, _]) (s2 := (514, [(0, .ref 2000), (1, .ref 0), (2, .ref 117), (3, .int i)], [.int (xs (i + 3).toNatClampNeg), .int (xs (i + 2).toNatClampNeg), .int (xs (i + 1).toNatClampNeg), .ref 0], σ)) 73 rfl rfl (conj_c (⟨rfl, g1⟩) (conj_c (⟨rfl, g2⟩) (conj_c (⟨rfl, g3⟩) (trivial)))) ?_
  refine Rc.call (Ev.mono d) (v := some (.long r)) (as := [.ref 0, .int (xs (i + 1).toNatClampNeg), .int (xs (i + 2).toNatClampNeg), .int (xs (i + 3).toNatClampNeg)]) (r := []) 74 rfl rfl rfl rfl ⟨rfl, Nat.le_of_ble_eq_true rfl⟩ (j_cover_0_ok (by omega) h1) ?_
  show Rc _ _ _ (517, [(0, .ref 2000), (1, .ref 0), (2, .ref 117), (3, .int i)], [.long r], σ1) _
  refine Rc.blk (c := [_, _, _]) (s2 := (533, [(0, .ref 2000), (1, .ref 0), (2, .ref 117), (3, .int i)], [.int (xs (i + 3).toNatClampNeg), .int (xs (i + 2).toNatClampNeg), .int (xs (i + 1).toNatClampNeg), .ref 117, .long r], σ1)) 75 rfl rfl (conj_c (⟨rfl, g1⟩) (conj_c (⟨rfl, g2⟩) (conj_c (⟨rfl, g3⟩) (trivial)))) ?_
  refine Rc.call (Ev.mono d) (v := some (.long r)) (as := [.ref 117, .int (xs (i + 1).toNatClampNeg), .int (xs (i + 2).toNatClampNeg), .int (xs (i + 3).toNatClampNeg)]) (r := [.long r]) 76 rfl rfl rfl rfl ⟨rfl, Nat.le_of_ble_eq_true rfl⟩ (m_cover_117_ok (by omega) h2) ?_
  show Rc _ _ _ (536, [(0, .ref 2000), (1, .ref 0), (2, .ref 117), (3, .int i)], [.long r, .long r], σ2) _
  refine Rc.blk (s2 := (if lg_cmp r r = 0 then 1342 else 540, [(0, .ref 2000), (1, .ref 0), (2, .ref 117), (3, .int i)], [], σ2)) 77 rfl rfl (trivial) ?_
  refine Rc.ifp (lcmp_self r) ?_
  exact hk
theorem law_c11 {d : Nat} (hd : 70 ≤ d) {L : Nat} {xs : Nat → Int32} {i : Int32} {σ σ1 σ2 : Sg} {r : Int32} (h1 : j_box_0 σ = some (r, σ1)) (h2 : m_box_117 σ1 = some (r, σ2)) {Q : Option Value → Sg → Prop} (hk : Rc (some (L, xs)) (Ev MT CT d) sgW (1342, [(0, .ref 2000), (1, .ref 0), (2, .ref 117), (3, .int i)], [], σ2) Q) : Rc (some (L, xs)) (Ev MT CT d) sgW (542, [(0, .ref 2000), (1, .ref 0), (2, .ref 117), (3, .int i)], [], σ) Q := by
  refine Rc.blk (c := []) (s2 := (543, [(0, .ref 2000), (1, .ref 0), (2, .ref 117), (3, .int i)], [.ref 0], σ)) 80 rfl rfl (trivial) ?_
  refine Rc.call (Ev.mono d) (v := some (.int r)) (as := [.ref 0]) (r := []) 81 rfl rfl rfl rfl ⟨rfl, Nat.le_of_ble_eq_true rfl⟩ (j_box_0_ok (by omega) h1) ?_
  show Rc _ _ _ (546, [(0, .ref 2000), (1, .ref 0), (2, .ref 117), (3, .int i)], [.int r], σ1) _
  refine Rc.blk (c := []) (s2 := (547, [(0, .ref 2000), (1, .ref 0), (2, .ref 117), (3, .int i)], [.ref 117, .int r], σ1)) 82 rfl rfl (trivial) ?_
  refine Rc.call (Ev.mono d) (v := some (.int r)) (as := [.ref 117]) (r := [.int r]) 83 rfl rfl rfl rfl ⟨rfl, Nat.le_of_ble_eq_true rfl⟩ (m_box_117_ok (by omega) h2) ?_
  show Rc _ _ _ (550, [(0, .ref 2000), (1, .ref 0), (2, .ref 117), (3, .int i)], [.int r, .int r], σ2) _
  refine Rc.blk (s2 := (if r = r then 1342 else 553, [(0, .ref 2000), (1, .ref 0), (2, .ref 117), (3, .int i)], [], σ2)) 84 rfl rfl (trivial) ?_
  refine Rc.ifp rfl ?_
  exact hk
theorem law_c12 {d : Nat} (hd : 70 ≤ d) {L : Nat} {xs : Nat → Int32} {i : Int32} (g1 : vp_in (i + 1) L) {σ σ1 σ2 : Sg} {r : Int32} (h1 : j_least_0 (xs (i + 1).toNatClampNeg) σ = some (r, σ1)) (h2 : m_least_117 (xs (i + 1).toNatClampNeg) σ1 = some (r, σ2)) {Q : Option Value → Sg → Prop} (hk : Rc (some (L, xs)) (Ev MT CT d) sgW (1342, [(0, .ref 2000), (1, .ref 0), (2, .ref 117), (3, .int i)], [], σ2) Q) : Rc (some (L, xs)) (Ev MT CT d) sgW (555, [(0, .ref 2000), (1, .ref 0), (2, .ref 117), (3, .int i)], [], σ) Q := by
  refine Rc.blk (c := [_]) (s2 := (561, [(0, .ref 2000), (1, .ref 0), (2, .ref 117), (3, .int i)], [.int (xs (i + 1).toNatClampNeg), .ref 0], σ)) 87 rfl rfl (conj_c (⟨rfl, g1⟩) (trivial)) ?_
  refine Rc.call (Ev.mono d) (v := some (.int r)) (as := [.ref 0, .int (xs (i + 1).toNatClampNeg)]) (r := []) 88 rfl rfl rfl rfl ⟨rfl, Nat.le_of_ble_eq_true rfl⟩ (j_least_0_ok (by omega) h1) ?_
  show Rc _ _ _ (564, [(0, .ref 2000), (1, .ref 0), (2, .ref 117), (3, .int i)], [.int r], σ1) _
  refine Rc.blk (c := [_]) (s2 := (570, [(0, .ref 2000), (1, .ref 0), (2, .ref 117), (3, .int i)], [.int (xs (i + 1).toNatClampNeg), .ref 117, .int r], σ1)) 89 rfl rfl (conj_c (⟨rfl, g1⟩) (trivial)) ?_
  refine Rc.call (Ev.mono d) (v := some (.int r)) (as := [.ref 117, .int (xs (i + 1).toNatClampNeg)]) (r := [.int r]) 90 rfl rfl rfl rfl ⟨rfl, Nat.le_of_ble_eq_true rfl⟩ (m_least_117_ok (by omega) h2) ?_
  show Rc _ _ _ (573, [(0, .ref 2000), (1, .ref 0), (2, .ref 117), (3, .int i)], [.int r, .int r], σ2) _
  refine Rc.blk (s2 := (if r = r then 1342 else 576, [(0, .ref 2000), (1, .ref 0), (2, .ref 117), (3, .int i)], [], σ2)) 91 rfl rfl (trivial) ?_
  refine Rc.ifp rfl ?_
  exact hk
theorem law_c13 {d : Nat} (hd : 70 ≤ d) {L : Nat} {xs : Nat → Int32} {i : Int32} (g1 : vp_in (i + 1) L) {σ σ1 σ2 : Sg} {r : Int32} (h1 : j_may_0 (xs (i + 1).toNatClampNeg) σ = some (r, σ1)) (h2 : m_may_117 (xs (i + 1).toNatClampNeg) σ1 = some (r, σ2)) {Q : Option Value → Sg → Prop} (hk : Rc (some (L, xs)) (Ev MT CT d) sgW (1342, [(0, .ref 2000), (1, .ref 0), (2, .ref 117), (3, .int i)], [], σ2) Q) : Rc (some (L, xs)) (Ev MT CT d) sgW (578, [(0, .ref 2000), (1, .ref 0), (2, .ref 117), (3, .int i)], [], σ) Q := by
  refine Rc.blk (c := [_]) (s2 := (584, [(0, .ref 2000), (1, .ref 0), (2, .ref 117), (3, .int i)], [.int (xs (i + 1).toNatClampNeg), .ref 0], σ)) 94 rfl rfl (conj_c (⟨rfl, g1⟩) (trivial)) ?_
  refine Rc.call (Ev.mono d) (v := some (.int r)) (as := [.ref 0, .int (xs (i + 1).toNatClampNeg)]) (r := []) 95 rfl rfl rfl rfl ⟨rfl, Nat.le_of_ble_eq_true rfl⟩ (j_may_0_ok (by omega) h1) ?_
  show Rc _ _ _ (587, [(0, .ref 2000), (1, .ref 0), (2, .ref 117), (3, .int i)], [.int r], σ1) _
  refine Rc.blk (c := [_]) (s2 := (593, [(0, .ref 2000), (1, .ref 0), (2, .ref 117), (3, .int i)], [.int (xs (i + 1).toNatClampNeg), .ref 117, .int r], σ1)) 96 rfl rfl (conj_c (⟨rfl, g1⟩) (trivial)) ?_
  refine Rc.call (Ev.mono d) (v := some (.int r)) (as := [.ref 117, .int (xs (i + 1).toNatClampNeg)]) (r := [.int r]) 97 rfl rfl rfl rfl ⟨rfl, Nat.le_of_ble_eq_true rfl⟩ (m_may_117_ok (by omega) h2) ?_
  show Rc _ _ _ (596, [(0, .ref 2000), (1, .ref 0), (2, .ref 117), (3, .int i)], [.int r, .int r], σ2) _
  refine Rc.blk (s2 := (if r = r then 1342 else 599, [(0, .ref 2000), (1, .ref 0), (2, .ref 117), (3, .int i)], [], σ2)) 98 rfl rfl (trivial) ?_
  refine Rc.ifp rfl ?_
  exact hk
theorem law_c14 {d : Nat} (hd : 70 ≤ d) {L : Nat} {xs : Nat → Int32} {i : Int32} (g1 : vp_in (i + 1) L) (g2 : vp_in (i + 2) L) (g3 : vp_in (i + 3) L) {σ σ1 σ2 : Sg} {r : Int32} (h1 : j_rest_0 (xs (i + 1).toNatClampNeg) (xs (i + 2).toNatClampNeg) (xs (i + 3).toNatClampNeg) σ = some (r, σ1)) (h2 : m_rest_117 (xs (i + 1).toNatClampNeg) (xs (i + 2).toNatClampNeg) (xs (i + 3).toNatClampNeg) σ1 = some (r, σ2)) {Q : Option Value → Sg → Prop} (hk : Rc (some (L, xs)) (Ev MT CT d) sgW (1342, [(0, .ref 2000), (1, .ref 0), (2, .ref 117), (3, .int i)], [], σ2) Q) : Rc (some (L, xs)) (Ev MT CT d) sgW (601, [(0, .ref 2000), (1, .ref 0), (2, .ref 117), (3, .int i)], [], σ) Q := by
  refine Rc.blk (c := [_, _, _]) (s2 := (617, [(0, .ref 2000), (1, .ref 0), (2, .ref 117), (3, .int i)], [.int (xs (i + 3).toNatClampNeg), .int (xs (i + 2).toNatClampNeg), .int (xs (i + 1).toNatClampNeg), .ref 0], σ)) 101 rfl rfl (conj_c (⟨rfl, g1⟩) (conj_c (⟨rfl, g2⟩) (conj_c (⟨rfl, g3⟩) (trivial)))) ?_
  refine Rc.call (Ev.mono d) (v := some (.int r)) (as := [.ref 0, .int (xs (i + 1).toNatClampNeg), .int (xs (i + 2).toNatClampNeg), .int (xs (i + 3).toNatClampNeg)]) (r := []) 102 rfl rfl rfl rfl ⟨rfl, Nat.le_of_ble_eq_true rfl⟩ (j_rest_0_ok (by omega) h1) ?_
  show Rc _ _ _ (620, [(0, .ref 2000), (1, .ref 0), (2, .ref 117), (3, .int i)], [.int r], σ1) _
  refine Rc.blk (c := [_, _, _]) (s2 := (636, [(0, .ref 2000), (1, .ref 0), (2, .ref 117), (3, .int i)], [.int (xs (i + 3).toNatClampNeg), .int (xs (i + 2).toNatClampNeg), .int (xs (i + 1).toNatClampNeg), .ref 117, .int r], σ1)) 103 rfl rfl (conj_c (⟨rfl, g1⟩) (conj_c (⟨rfl, g2⟩) (conj_c (⟨rfl, g3⟩) (trivial)))) ?_
  refine Rc.call (Ev.mono d) (v := some (.int r)) (as := [.ref 117, .int (xs (i + 1).toNatClampNeg), .int (xs (i + 2).toNatClampNeg), .int (xs (i + 3).toNatClampNeg)]) (r := [.int r]) 104 rfl rfl rfl rfl ⟨rfl, Nat.le_of_ble_eq_true rfl⟩ (m_rest_117_ok (by omega) h2) ?_
  show Rc _ _ _ (639, [(0, .ref 2000), (1, .ref 0), (2, .ref 117), (3, .int i)], [.int r, .int r], σ2) _
  refine Rc.blk (s2 := (if r = r then 1342 else 642, [(0, .ref 2000), (1, .ref 0), (2, .ref 117), (3, .int i)], [], σ2)) 105 rfl rfl (trivial) ?_
  refine Rc.ifp rfl ?_
  exact hk
theorem law_c15 {d : Nat} (hd : 70 ≤ d) {L : Nat} {xs : Nat → Int32} {i : Int32} (g1 : vp_in (i + 1) L) {σ σ1 σ2 : Sg} {r : Int32} (h1 : j_sets_0 (xs (i + 1).toNatClampNeg) σ = some (r, σ1)) (h2 : m_sets1_117 (xs (i + 1).toNatClampNeg) σ1 = some (r, σ2)) {Q : Option Value → Sg → Prop} (hk : Rc (some (L, xs)) (Ev MT CT d) sgW (1342, [(0, .ref 2000), (1, .ref 0), (2, .ref 117), (3, .int i)], [], σ2) Q) : Rc (some (L, xs)) (Ev MT CT d) sgW (644, [(0, .ref 2000), (1, .ref 0), (2, .ref 117), (3, .int i)], [], σ) Q := by
  refine Rc.blk (c := [_]) (s2 := (650, [(0, .ref 2000), (1, .ref 0), (2, .ref 117), (3, .int i)], [.int (xs (i + 1).toNatClampNeg), .ref 0], σ)) 108 rfl rfl (conj_c (⟨rfl, g1⟩) (trivial)) ?_
  refine Rc.call (Ev.mono d) (v := some (.int r)) (as := [.ref 0, .int (xs (i + 1).toNatClampNeg)]) (r := []) 109 rfl rfl rfl rfl ⟨rfl, Nat.le_of_ble_eq_true rfl⟩ (j_sets_0_ok (by omega) h1) ?_
  show Rc _ _ _ (653, [(0, .ref 2000), (1, .ref 0), (2, .ref 117), (3, .int i)], [.int r], σ1) _
  refine Rc.blk (c := [_]) (s2 := (659, [(0, .ref 2000), (1, .ref 0), (2, .ref 117), (3, .int i)], [.int (xs (i + 1).toNatClampNeg), .ref 117, .int r], σ1)) 110 rfl rfl (conj_c (⟨rfl, g1⟩) (trivial)) ?_
  refine Rc.call (Ev.mono d) (v := some (.int r)) (as := [.ref 117, .int (xs (i + 1).toNatClampNeg)]) (r := [.int r]) 111 rfl rfl rfl rfl ⟨rfl, Nat.le_of_ble_eq_true rfl⟩ (m_sets1_117_ok (by omega) h2) ?_
  show Rc _ _ _ (662, [(0, .ref 2000), (1, .ref 0), (2, .ref 117), (3, .int i)], [.int r, .int r], σ2) _
  refine Rc.blk (s2 := (if r = r then 1342 else 665, [(0, .ref 2000), (1, .ref 0), (2, .ref 117), (3, .int i)], [], σ2)) 112 rfl rfl (trivial) ?_
  refine Rc.ifp rfl ?_
  exact hk
theorem law_c16 {d : Nat} (hd : 70 ≤ d) {L : Nat} {xs : Nat → Int32} {i : Int32} (g1 : vp_in (i + 1) L) {σ σ1 σ2 : Sg} {r : Int64} (h1 : j_sizes_0 (xs (i + 1).toNatClampNeg) σ = some (r, σ1)) (h2 : m_sizes_117 (xs (i + 1).toNatClampNeg) σ1 = some (r, σ2)) {Q : Option Value → Sg → Prop} (hk : Rc (some (L, xs)) (Ev MT CT d) sgW (1342, [(0, .ref 2000), (1, .ref 0), (2, .ref 117), (3, .int i)], [], σ2) Q) : Rc (some (L, xs)) (Ev MT CT d) sgW (667, [(0, .ref 2000), (1, .ref 0), (2, .ref 117), (3, .int i)], [], σ) Q := by
  refine Rc.blk (c := [_]) (s2 := (673, [(0, .ref 2000), (1, .ref 0), (2, .ref 117), (3, .int i)], [.int (xs (i + 1).toNatClampNeg), .ref 0], σ)) 115 rfl rfl (conj_c (⟨rfl, g1⟩) (trivial)) ?_
  refine Rc.call (Ev.mono d) (v := some (.long r)) (as := [.ref 0, .int (xs (i + 1).toNatClampNeg)]) (r := []) 116 rfl rfl rfl rfl ⟨rfl, Nat.le_of_ble_eq_true rfl⟩ (j_sizes_0_ok (by omega) h1) ?_
  show Rc _ _ _ (676, [(0, .ref 2000), (1, .ref 0), (2, .ref 117), (3, .int i)], [.long r], σ1) _
  refine Rc.blk (c := [_]) (s2 := (682, [(0, .ref 2000), (1, .ref 0), (2, .ref 117), (3, .int i)], [.int (xs (i + 1).toNatClampNeg), .ref 117, .long r], σ1)) 117 rfl rfl (conj_c (⟨rfl, g1⟩) (trivial)) ?_
  refine Rc.call (Ev.mono d) (v := some (.long r)) (as := [.ref 117, .int (xs (i + 1).toNatClampNeg)]) (r := [.long r]) 118 rfl rfl rfl rfl ⟨rfl, Nat.le_of_ble_eq_true rfl⟩ (m_sizes_117_ok (by omega) h2) ?_
  show Rc _ _ _ (685, [(0, .ref 2000), (1, .ref 0), (2, .ref 117), (3, .int i)], [.long r, .long r], σ2) _
  refine Rc.blk (s2 := (if lg_cmp r r = 0 then 1342 else 689, [(0, .ref 2000), (1, .ref 0), (2, .ref 117), (3, .int i)], [], σ2)) 119 rfl rfl (trivial) ?_
  refine Rc.ifp (lcmp_self r) ?_
  exact hk
theorem law_c17 {d : Nat} (hd : 70 ≤ d) {L : Nat} {xs : Nat → Int32} {i : Int32} (g1 : vp_in (i + 1) L) {σ σ1 σ2 : Sg} {r : Int64} (h1 : j_odds_0 (xs (i + 1).toNatClampNeg) σ = some (r, σ1)) (h2 : m_odds_117 (xs (i + 1).toNatClampNeg) σ1 = some (r, σ2)) {Q : Option Value → Sg → Prop} (hk : Rc (some (L, xs)) (Ev MT CT d) sgW (1342, [(0, .ref 2000), (1, .ref 0), (2, .ref 117), (3, .int i)], [], σ2) Q) : Rc (some (L, xs)) (Ev MT CT d) sgW (691, [(0, .ref 2000), (1, .ref 0), (2, .ref 117), (3, .int i)], [], σ) Q := by
  refine Rc.blk (c := [_]) (s2 := (697, [(0, .ref 2000), (1, .ref 0), (2, .ref 117), (3, .int i)], [.int (xs (i + 1).toNatClampNeg), .ref 0], σ)) 122 rfl rfl (conj_c (⟨rfl, g1⟩) (trivial)) ?_
  refine Rc.call (Ev.mono d) (v := some (.long r)) (as := [.ref 0, .int (xs (i + 1).toNatClampNeg)]) (r := []) 123 rfl rfl rfl rfl ⟨rfl, Nat.le_of_ble_eq_true rfl⟩ (j_odds_0_ok (by omega) h1) ?_
  show Rc _ _ _ (700, [(0, .ref 2000), (1, .ref 0), (2, .ref 117), (3, .int i)], [.long r], σ1) _
  refine Rc.blk (c := [_]) (s2 := (706, [(0, .ref 2000), (1, .ref 0), (2, .ref 117), (3, .int i)], [.int (xs (i + 1).toNatClampNeg), .ref 117, .long r], σ1)) 124 rfl rfl (conj_c (⟨rfl, g1⟩) (trivial)) ?_
  refine Rc.call (Ev.mono d) (v := some (.long r)) (as := [.ref 117, .int (xs (i + 1).toNatClampNeg)]) (r := [.long r]) 125 rfl rfl rfl rfl ⟨rfl, Nat.le_of_ble_eq_true rfl⟩ (m_odds_117_ok (by omega) h2) ?_
  show Rc _ _ _ (709, [(0, .ref 2000), (1, .ref 0), (2, .ref 117), (3, .int i)], [.long r, .long r], σ2) _
  refine Rc.blk (s2 := (if lg_cmp r r = 0 then 1342 else 713, [(0, .ref 2000), (1, .ref 0), (2, .ref 117), (3, .int i)], [], σ2)) 126 rfl rfl (trivial) ?_
  refine Rc.ifp (lcmp_self r) ?_
  exact hk
theorem law_c18 {d : Nat} (hd : 70 ≤ d) {L : Nat} {xs : Nat → Int32} {i : Int32} (g1 : vp_in (i + 1) L) (g2 : vp_in (i + 2) L) (g3 : vp_in (i + 3) L) {σ σ1 σ2 : Sg} {r : Int32} (h1 : j_scale_0 (xs (i + 1).toNatClampNeg) (xs (i + 2).toNatClampNeg) (xs (i + 3).toNatClampNeg) σ = some (r, σ1)) (h2 : m_scale_117 (xs (i + 1).toNatClampNeg) (xs (i + 2).toNatClampNeg) (xs (i + 3).toNatClampNeg) σ1 = some (r, σ2)) {Q : Option Value → Sg → Prop} (hk : Rc (some (L, xs)) (Ev MT CT d) sgW (1342, [(0, .ref 2000), (1, .ref 0), (2, .ref 117), (3, .int i)], [], σ2) Q) : Rc (some (L, xs)) (Ev MT CT d) sgW (715, [(0, .ref 2000), (1, .ref 0), (2, .ref 117), (3, .int i)], [], σ) Q := by
  refine Rc.blk (c := [_, _, _]) (s2 := (731, [(0, .ref 2000), (1, .ref 0), (2, .ref 117), (3, .int i)], [.int (xs (i + 3).toNatClampNeg), .int (xs (i + 2).toNatClampNeg), .int (xs (i + 1).toNatClampNeg), .ref 0], σ)) 129 rfl rfl (conj_c (⟨rfl, g1⟩) (conj_c (⟨rfl, g2⟩) (conj_c (⟨rfl, g3⟩) (trivial)))) ?_
  refine Rc.call (Ev.mono d) (v := some (.int r)) (as := [.ref 0, .int (xs (i + 1).toNatClampNeg), .int (xs (i + 2).toNatClampNeg), .int (xs (i + 3).toNatClampNeg)]) (r := []) 130 rfl rfl rfl rfl ⟨rfl, Nat.le_of_ble_eq_true rfl⟩ (j_scale_0_ok (by omega) h1) ?_
  show Rc _ _ _ (734, [(0, .ref 2000), (1, .ref 0), (2, .ref 117), (3, .int i)], [.int r], σ1) _
  refine Rc.blk (c := [_, _, _]) (s2 := (750, [(0, .ref 2000), (1, .ref 0), (2, .ref 117), (3, .int i)], [.int (xs (i + 3).toNatClampNeg), .int (xs (i + 2).toNatClampNeg), .int (xs (i + 1).toNatClampNeg), .ref 117, .int r], σ1)) 131 rfl rfl (conj_c (⟨rfl, g1⟩) (conj_c (⟨rfl, g2⟩) (conj_c (⟨rfl, g3⟩) (trivial)))) ?_
  refine Rc.call (Ev.mono d) (v := some (.int r)) (as := [.ref 117, .int (xs (i + 1).toNatClampNeg), .int (xs (i + 2).toNatClampNeg), .int (xs (i + 3).toNatClampNeg)]) (r := [.int r]) 132 rfl rfl rfl rfl ⟨rfl, Nat.le_of_ble_eq_true rfl⟩ (m_scale_117_ok (by omega) h2) ?_
  show Rc _ _ _ (753, [(0, .ref 2000), (1, .ref 0), (2, .ref 117), (3, .int i)], [.int r, .int r], σ2) _
  refine Rc.blk (s2 := (if r = r then 1342 else 756, [(0, .ref 2000), (1, .ref 0), (2, .ref 117), (3, .int i)], [], σ2)) 133 rfl rfl (trivial) ?_
  refine Rc.ifp rfl ?_
  exact hk
theorem law_c19 {d : Nat} (hd : 70 ≤ d) {L : Nat} {xs : Nat → Int32} {i : Int32} (g1 : vp_in (i + 1) L) (g2 : vp_in (i + 2) L) {σ σ1 σ2 : Sg} {r : Int32} (h1 : j_scaled_0 (xs (i + 1).toNatClampNeg) (xs (i + 2).toNatClampNeg) σ = some (r, σ1)) (h2 : m_scaled_117 (xs (i + 1).toNatClampNeg) (xs (i + 2).toNatClampNeg) σ1 = some (r, σ2)) {Q : Option Value → Sg → Prop} (hk : Rc (some (L, xs)) (Ev MT CT d) sgW (1342, [(0, .ref 2000), (1, .ref 0), (2, .ref 117), (3, .int i)], [], σ2) Q) : Rc (some (L, xs)) (Ev MT CT d) sgW (758, [(0, .ref 2000), (1, .ref 0), (2, .ref 117), (3, .int i)], [], σ) Q := by
  refine Rc.blk (c := [_, _]) (s2 := (769, [(0, .ref 2000), (1, .ref 0), (2, .ref 117), (3, .int i)], [.int (xs (i + 2).toNatClampNeg), .int (xs (i + 1).toNatClampNeg), .ref 0], σ)) 136 rfl rfl (conj_c (⟨rfl, g1⟩) (conj_c (⟨rfl, g2⟩) (trivial))) ?_
  refine Rc.call (Ev.mono d) (v := some (.int r)) (as := [.ref 0, .int (xs (i + 1).toNatClampNeg), .int (xs (i + 2).toNatClampNeg)]) (r := []) 137 rfl rfl rfl rfl ⟨rfl, Nat.le_of_ble_eq_true rfl⟩ (j_scaled_0_ok (by omega) h1) ?_
  show Rc _ _ _ (772, [(0, .ref 2000), (1, .ref 0), (2, .ref 117), (3, .int i)], [.int r], σ1) _
  refine Rc.blk (c := [_, _]) (s2 := (783, [(0, .ref 2000), (1, .ref 0), (2, .ref 117), (3, .int i)], [.int (xs (i + 2).toNatClampNeg), .int (xs (i + 1).toNatClampNeg), .ref 117, .int r], σ1)) 138 rfl rfl (conj_c (⟨rfl, g1⟩) (conj_c (⟨rfl, g2⟩) (trivial))) ?_
  refine Rc.call (Ev.mono d) (v := some (.int r)) (as := [.ref 117, .int (xs (i + 1).toNatClampNeg), .int (xs (i + 2).toNatClampNeg)]) (r := [.int r]) 139 rfl rfl rfl rfl ⟨rfl, Nat.le_of_ble_eq_true rfl⟩ (m_scaled_117_ok (by omega) h2) ?_
  show Rc _ _ _ (786, [(0, .ref 2000), (1, .ref 0), (2, .ref 117), (3, .int i)], [.int r, .int r], σ2) _
  refine Rc.blk (s2 := (if r = r then 1342 else 789, [(0, .ref 2000), (1, .ref 0), (2, .ref 117), (3, .int i)], [], σ2)) 140 rfl rfl (trivial) ?_
  refine Rc.ifp rfl ?_
  exact hk
theorem law_c20 {d : Nat} (hd : 70 ≤ d) {L : Nat} {xs : Nat → Int32} {i : Int32} {σ σ1 σ2 : Sg} {r : Int32} (h1 : j_alike_0 σ = some (r, σ1)) (h2 : m_alike_117 σ1 = some (r, σ2)) {Q : Option Value → Sg → Prop} (hk : Rc (some (L, xs)) (Ev MT CT d) sgW (1342, [(0, .ref 2000), (1, .ref 0), (2, .ref 117), (3, .int i)], [], σ2) Q) : Rc (some (L, xs)) (Ev MT CT d) sgW (791, [(0, .ref 2000), (1, .ref 0), (2, .ref 117), (3, .int i)], [], σ) Q := by
  refine Rc.blk (c := []) (s2 := (792, [(0, .ref 2000), (1, .ref 0), (2, .ref 117), (3, .int i)], [.ref 0], σ)) 143 rfl rfl (trivial) ?_
  refine Rc.call (Ev.mono d) (v := some (.int r)) (as := [.ref 0]) (r := []) 144 rfl rfl rfl rfl ⟨rfl, Nat.le_of_ble_eq_true rfl⟩ (j_alike_0_ok (by omega) h1) ?_
  show Rc _ _ _ (795, [(0, .ref 2000), (1, .ref 0), (2, .ref 117), (3, .int i)], [.int r], σ1) _
  refine Rc.blk (c := []) (s2 := (796, [(0, .ref 2000), (1, .ref 0), (2, .ref 117), (3, .int i)], [.ref 117, .int r], σ1)) 145 rfl rfl (trivial) ?_
  refine Rc.call (Ev.mono d) (v := some (.int r)) (as := [.ref 117]) (r := [.int r]) 146 rfl rfl rfl rfl ⟨rfl, Nat.le_of_ble_eq_true rfl⟩ (m_alike_117_ok (by omega) h2) ?_
  show Rc _ _ _ (799, [(0, .ref 2000), (1, .ref 0), (2, .ref 117), (3, .int i)], [.int r, .int r], σ2) _
  refine Rc.blk (s2 := (if r = r then 1342 else 802, [(0, .ref 2000), (1, .ref 0), (2, .ref 117), (3, .int i)], [], σ2)) 147 rfl rfl (trivial) ?_
  refine Rc.ifp rfl ?_
  exact hk
theorem law_c21 {d : Nat} (hd : 70 ≤ d) {L : Nat} {xs : Nat → Int32} {i : Int32} (g1 : vp_in (i + 1) L) (g2 : vp_in (i + 2) L) (g3 : vp_in (i + 3) L) (g4 : vp_in (i + 4) L) {σ σ1 σ2 : Sg} {r : Int64} (h1 : j_must_0 (xs (i + 1).toNatClampNeg) (xs (i + 2).toNatClampNeg) (xs (i + 3).toNatClampNeg) (xs (i + 4).toNatClampNeg) σ = some (r, σ1)) (h2 : m_must_117 (xs (i + 1).toNatClampNeg) (xs (i + 2).toNatClampNeg) (xs (i + 3).toNatClampNeg) (xs (i + 4).toNatClampNeg) σ1 = some (r, σ2)) {Q : Option Value → Sg → Prop} (hk : Rc (some (L, xs)) (Ev MT CT d) sgW (1342, [(0, .ref 2000), (1, .ref 0), (2, .ref 117), (3, .int i)], [], σ2) Q) : Rc (some (L, xs)) (Ev MT CT d) sgW (804, [(0, .ref 2000), (1, .ref 0), (2, .ref 117), (3, .int i)], [], σ) Q := by
  refine Rc.blk (c := [_, _, _, _]) (s2 := (825, [(0, .ref 2000), (1, .ref 0), (2, .ref 117), (3, .int i)], [.int (xs (i + 4).toNatClampNeg), .int (xs (i + 3).toNatClampNeg), .int (xs (i + 2).toNatClampNeg), .int (xs (i + 1).toNatClampNeg), .ref 0], σ)) 150 rfl rfl (conj_c (⟨rfl, g1⟩) (conj_c (⟨rfl, g2⟩) (conj_c (⟨rfl, g3⟩) (conj_c (⟨rfl, g4⟩) (trivial))))) ?_
  refine Rc.call (Ev.mono d) (v := some (.long r)) (as := [.ref 0, .int (xs (i + 1).toNatClampNeg), .int (xs (i + 2).toNatClampNeg), .int (xs (i + 3).toNatClampNeg), .int (xs (i + 4).toNatClampNeg)]) (r := []) 151 rfl rfl rfl rfl ⟨rfl, Nat.le_of_ble_eq_true rfl⟩ (j_must_0_ok (by omega) h1) ?_
  show Rc _ _ _ (828, [(0, .ref 2000), (1, .ref 0), (2, .ref 117), (3, .int i)], [.long r], σ1) _
  refine Rc.blk (c := [_, _, _, _]) (s2 := (849, [(0, .ref 2000), (1, .ref 0), (2, .ref 117), (3, .int i)], [.int (xs (i + 4).toNatClampNeg), .int (xs (i + 3).toNatClampNeg), .int (xs (i + 2).toNatClampNeg), .int (xs (i + 1).toNatClampNeg), .ref 117, .long r], σ1)) 152 rfl rfl (conj_c (⟨rfl, g1⟩) (conj_c (⟨rfl, g2⟩) (conj_c (⟨rfl, g3⟩) (conj_c (⟨rfl, g4⟩) (trivial))))) ?_
  refine Rc.call (Ev.mono d) (v := some (.long r)) (as := [.ref 117, .int (xs (i + 1).toNatClampNeg), .int (xs (i + 2).toNatClampNeg), .int (xs (i + 3).toNatClampNeg), .int (xs (i + 4).toNatClampNeg)]) (r := [.long r]) 153 rfl rfl rfl rfl ⟨rfl, Nat.le_of_ble_eq_true rfl⟩ (m_must_117_ok (by omega) h2) ?_
  show Rc _ _ _ (852, [(0, .ref 2000), (1, .ref 0), (2, .ref 117), (3, .int i)], [.long r, .long r], σ2) _
  refine Rc.blk (s2 := (if lg_cmp r r = 0 then 1342 else 856, [(0, .ref 2000), (1, .ref 0), (2, .ref 117), (3, .int i)], [], σ2)) 154 rfl rfl (trivial) ?_
  refine Rc.ifp (lcmp_self r) ?_
  exact hk
theorem law_c22 {d : Nat} (hd : 70 ≤ d) {L : Nat} {xs : Nat → Int32} {i : Int32} (g1 : vp_in (i + 1) L) (g2 : vp_in (i + 2) L) {σ σ1 σ2 : Sg} {r : Int32} (h1 : j_whole_0 (xs (i + 1).toNatClampNeg) (xs (i + 2).toNatClampNeg) σ = some (r, σ1)) (h2 : m_whole_117 (xs (i + 1).toNatClampNeg) (xs (i + 2).toNatClampNeg) σ1 = some (r, σ2)) {Q : Option Value → Sg → Prop} (hk : Rc (some (L, xs)) (Ev MT CT d) sgW (1342, [(0, .ref 2000), (1, .ref 0), (2, .ref 117), (3, .int i)], [], σ2) Q) : Rc (some (L, xs)) (Ev MT CT d) sgW (858, [(0, .ref 2000), (1, .ref 0), (2, .ref 117), (3, .int i)], [], σ) Q := by
  refine Rc.blk (c := [_, _]) (s2 := (869, [(0, .ref 2000), (1, .ref 0), (2, .ref 117), (3, .int i)], [.int (xs (i + 2).toNatClampNeg), .int (xs (i + 1).toNatClampNeg), .ref 0], σ)) 157 rfl rfl (conj_c (⟨rfl, g1⟩) (conj_c (⟨rfl, g2⟩) (trivial))) ?_
  refine Rc.call (Ev.mono d) (v := some (.int r)) (as := [.ref 0, .int (xs (i + 1).toNatClampNeg), .int (xs (i + 2).toNatClampNeg)]) (r := []) 158 rfl rfl rfl rfl ⟨rfl, Nat.le_of_ble_eq_true rfl⟩ (j_whole_0_ok (by omega) h1) ?_
  show Rc _ _ _ (872, [(0, .ref 2000), (1, .ref 0), (2, .ref 117), (3, .int i)], [.int r], σ1) _
  refine Rc.blk (c := [_, _]) (s2 := (883, [(0, .ref 2000), (1, .ref 0), (2, .ref 117), (3, .int i)], [.int (xs (i + 2).toNatClampNeg), .int (xs (i + 1).toNatClampNeg), .ref 117, .int r], σ1)) 159 rfl rfl (conj_c (⟨rfl, g1⟩) (conj_c (⟨rfl, g2⟩) (trivial))) ?_
  refine Rc.call (Ev.mono d) (v := some (.int r)) (as := [.ref 117, .int (xs (i + 1).toNatClampNeg), .int (xs (i + 2).toNatClampNeg)]) (r := [.int r]) 160 rfl rfl rfl rfl ⟨rfl, Nat.le_of_ble_eq_true rfl⟩ (m_whole_117_ok (by omega) h2) ?_
  show Rc _ _ _ (886, [(0, .ref 2000), (1, .ref 0), (2, .ref 117), (3, .int i)], [.int r, .int r], σ2) _
  refine Rc.blk (s2 := (if r = r then 1342 else 889, [(0, .ref 2000), (1, .ref 0), (2, .ref 117), (3, .int i)], [], σ2)) 161 rfl rfl (trivial) ?_
  refine Rc.ifp rfl ?_
  exact hk
theorem law_c23 {d : Nat} (hd : 70 ≤ d) {L : Nat} {xs : Nat → Int32} {i : Int32} (g1 : vp_in (i + 1) L) {σ σ1 σ2 : Sg} {r : Int32} (h1 : j_off_0 (xs (i + 1).toNatClampNeg) σ = some (r, σ1)) (h2 : m_off_117 (xs (i + 1).toNatClampNeg) σ1 = some (r, σ2)) {Q : Option Value → Sg → Prop} (hk : Rc (some (L, xs)) (Ev MT CT d) sgW (1342, [(0, .ref 2000), (1, .ref 0), (2, .ref 117), (3, .int i)], [], σ2) Q) : Rc (some (L, xs)) (Ev MT CT d) sgW (891, [(0, .ref 2000), (1, .ref 0), (2, .ref 117), (3, .int i)], [], σ) Q := by
  refine Rc.blk (c := [_]) (s2 := (897, [(0, .ref 2000), (1, .ref 0), (2, .ref 117), (3, .int i)], [.int (xs (i + 1).toNatClampNeg), .ref 0], σ)) 164 rfl rfl (conj_c (⟨rfl, g1⟩) (trivial)) ?_
  refine Rc.call (Ev.mono d) (v := some (.int r)) (as := [.ref 0, .int (xs (i + 1).toNatClampNeg)]) (r := []) 165 rfl rfl rfl rfl ⟨rfl, Nat.le_of_ble_eq_true rfl⟩ (j_off_0_ok (by omega) h1) ?_
  show Rc _ _ _ (900, [(0, .ref 2000), (1, .ref 0), (2, .ref 117), (3, .int i)], [.int r], σ1) _
  refine Rc.blk (c := [_]) (s2 := (906, [(0, .ref 2000), (1, .ref 0), (2, .ref 117), (3, .int i)], [.int (xs (i + 1).toNatClampNeg), .ref 117, .int r], σ1)) 166 rfl rfl (conj_c (⟨rfl, g1⟩) (trivial)) ?_
  refine Rc.call (Ev.mono d) (v := some (.int r)) (as := [.ref 117, .int (xs (i + 1).toNatClampNeg)]) (r := [.int r]) 167 rfl rfl rfl rfl ⟨rfl, Nat.le_of_ble_eq_true rfl⟩ (m_off_117_ok (by omega) h2) ?_
  show Rc _ _ _ (909, [(0, .ref 2000), (1, .ref 0), (2, .ref 117), (3, .int i)], [.int r, .int r], σ2) _
  refine Rc.blk (s2 := (if r = r then 1342 else 912, [(0, .ref 2000), (1, .ref 0), (2, .ref 117), (3, .int i)], [], σ2)) 168 rfl rfl (trivial) ?_
  refine Rc.ifp rfl ?_
  exact hk
theorem law_c24 {d : Nat} (hd : 70 ≤ d) {L : Nat} {xs : Nat → Int32} {i : Int32} (g1 : vp_in (i + 1) L) (g2 : vp_in (i + 2) L) {σ σ1 σ2 : Sg} {r : Int32} (h1 : j_fewest_0 (xs (i + 1).toNatClampNeg) (xs (i + 2).toNatClampNeg) σ = some (r, σ1)) (h2 : m_fewest_117 (xs (i + 1).toNatClampNeg) (xs (i + 2).toNatClampNeg) σ1 = some (r, σ2)) {Q : Option Value → Sg → Prop} (hk : Rc (some (L, xs)) (Ev MT CT d) sgW (1342, [(0, .ref 2000), (1, .ref 0), (2, .ref 117), (3, .int i)], [], σ2) Q) : Rc (some (L, xs)) (Ev MT CT d) sgW (914, [(0, .ref 2000), (1, .ref 0), (2, .ref 117), (3, .int i)], [], σ) Q := by
  refine Rc.blk (c := [_, _]) (s2 := (925, [(0, .ref 2000), (1, .ref 0), (2, .ref 117), (3, .int i)], [.int (xs (i + 2).toNatClampNeg), .int (xs (i + 1).toNatClampNeg), .ref 0], σ)) 171 rfl rfl (conj_c (⟨rfl, g1⟩) (conj_c (⟨rfl, g2⟩) (trivial))) ?_
  refine Rc.call (Ev.mono d) (v := some (.int r)) (as := [.ref 0, .int (xs (i + 1).toNatClampNeg), .int (xs (i + 2).toNatClampNeg)]) (r := []) 172 rfl rfl rfl rfl ⟨rfl, Nat.le_of_ble_eq_true rfl⟩ (j_fewest_0_ok (by omega) h1) ?_
  show Rc _ _ _ (928, [(0, .ref 2000), (1, .ref 0), (2, .ref 117), (3, .int i)], [.int r], σ1) _
  refine Rc.blk (c := [_, _]) (s2 := (939, [(0, .ref 2000), (1, .ref 0), (2, .ref 117), (3, .int i)], [.int (xs (i + 2).toNatClampNeg), .int (xs (i + 1).toNatClampNeg), .ref 117, .int r], σ1)) 173 rfl rfl (conj_c (⟨rfl, g1⟩) (conj_c (⟨rfl, g2⟩) (trivial))) ?_
  refine Rc.call (Ev.mono d) (v := some (.int r)) (as := [.ref 117, .int (xs (i + 1).toNatClampNeg), .int (xs (i + 2).toNatClampNeg)]) (r := [.int r]) 174 rfl rfl rfl rfl ⟨rfl, Nat.le_of_ble_eq_true rfl⟩ (m_fewest_117_ok (by omega) h2) ?_
  show Rc _ _ _ (942, [(0, .ref 2000), (1, .ref 0), (2, .ref 117), (3, .int i)], [.int r, .int r], σ2) _
  refine Rc.blk (s2 := (if r = r then 1342 else 945, [(0, .ref 2000), (1, .ref 0), (2, .ref 117), (3, .int i)], [], σ2)) 175 rfl rfl (trivial) ?_
  refine Rc.ifp rfl ?_
  exact hk
theorem law_c25 {d : Nat} (hd : 70 ≤ d) {L : Nat} {xs : Nat → Int32} {i : Int32} (g1 : vp_in (i + 1) L) {σ σ1 σ2 : Sg} {r : Int32} (h1 : j_had_0 (xs (i + 1).toNatClampNeg) σ = some (r, σ1)) (h2 : m_had_117 (xs (i + 1).toNatClampNeg) σ1 = some (r, σ2)) {Q : Option Value → Sg → Prop} (hk : Rc (some (L, xs)) (Ev MT CT d) sgW (1342, [(0, .ref 2000), (1, .ref 0), (2, .ref 117), (3, .int i)], [], σ2) Q) : Rc (some (L, xs)) (Ev MT CT d) sgW (947, [(0, .ref 2000), (1, .ref 0), (2, .ref 117), (3, .int i)], [], σ) Q := by
  refine Rc.blk (c := [_]) (s2 := (953, [(0, .ref 2000), (1, .ref 0), (2, .ref 117), (3, .int i)], [.int (xs (i + 1).toNatClampNeg), .ref 0], σ)) 178 rfl rfl (conj_c (⟨rfl, g1⟩) (trivial)) ?_
  refine Rc.call (Ev.mono d) (v := some (.int r)) (as := [.ref 0, .int (xs (i + 1).toNatClampNeg)]) (r := []) 179 rfl rfl rfl rfl ⟨rfl, Nat.le_of_ble_eq_true rfl⟩ (j_had_0_ok (by omega) h1) ?_
  show Rc _ _ _ (956, [(0, .ref 2000), (1, .ref 0), (2, .ref 117), (3, .int i)], [.int r], σ1) _
  refine Rc.blk (c := [_]) (s2 := (962, [(0, .ref 2000), (1, .ref 0), (2, .ref 117), (3, .int i)], [.int (xs (i + 1).toNatClampNeg), .ref 117, .int r], σ1)) 180 rfl rfl (conj_c (⟨rfl, g1⟩) (trivial)) ?_
  refine Rc.call (Ev.mono d) (v := some (.int r)) (as := [.ref 117, .int (xs (i + 1).toNatClampNeg)]) (r := [.int r]) 181 rfl rfl rfl rfl ⟨rfl, Nat.le_of_ble_eq_true rfl⟩ (m_had_117_ok (by omega) h2) ?_
  show Rc _ _ _ (965, [(0, .ref 2000), (1, .ref 0), (2, .ref 117), (3, .int i)], [.int r, .int r], σ2) _
  refine Rc.blk (s2 := (if r = r then 1342 else 968, [(0, .ref 2000), (1, .ref 0), (2, .ref 117), (3, .int i)], [], σ2)) 182 rfl rfl (trivial) ?_
  refine Rc.ifp rfl ?_
  exact hk
theorem law_c26 {d : Nat} (hd : 70 ≤ d) {L : Nat} {xs : Nat → Int32} {i : Int32} {σ σ1 σ2 : Sg} {r : Int32} (h1 : j_formula_0 σ = some (r, σ1)) (h2 : m_formula_117 σ1 = some (r, σ2)) {Q : Option Value → Sg → Prop} (hk : Rc (some (L, xs)) (Ev MT CT d) sgW (1342, [(0, .ref 2000), (1, .ref 0), (2, .ref 117), (3, .int i)], [], σ2) Q) : Rc (some (L, xs)) (Ev MT CT d) sgW (970, [(0, .ref 2000), (1, .ref 0), (2, .ref 117), (3, .int i)], [], σ) Q := by
  refine Rc.blk (c := []) (s2 := (971, [(0, .ref 2000), (1, .ref 0), (2, .ref 117), (3, .int i)], [.ref 0], σ)) 185 rfl rfl (trivial) ?_
  refine Rc.call (Ev.mono d) (v := some (.int r)) (as := [.ref 0]) (r := []) 186 rfl rfl rfl rfl ⟨rfl, Nat.le_of_ble_eq_true rfl⟩ (j_formula_0_ok (by omega) h1) ?_
  show Rc _ _ _ (974, [(0, .ref 2000), (1, .ref 0), (2, .ref 117), (3, .int i)], [.int r], σ1) _
  refine Rc.blk (c := []) (s2 := (975, [(0, .ref 2000), (1, .ref 0), (2, .ref 117), (3, .int i)], [.ref 117, .int r], σ1)) 187 rfl rfl (trivial) ?_
  refine Rc.call (Ev.mono d) (v := some (.int r)) (as := [.ref 117]) (r := [.int r]) 188 rfl rfl rfl rfl ⟨rfl, Nat.le_of_ble_eq_true rfl⟩ (m_formula_117_ok (by omega) h2) ?_
  show Rc _ _ _ (978, [(0, .ref 2000), (1, .ref 0), (2, .ref 117), (3, .int i)], [.int r, .int r], σ2) _
  refine Rc.blk (s2 := (if r = r then 1342 else 981, [(0, .ref 2000), (1, .ref 0), (2, .ref 117), (3, .int i)], [], σ2)) 189 rfl rfl (trivial) ?_
  refine Rc.ifp rfl ?_
  exact hk
theorem law_c27 {d : Nat} (hd : 70 ≤ d) {L : Nat} {xs : Nat → Int32} {i : Int32} (g1 : vp_in (i + 1) L) {σ σ1 σ2 : Sg} {r : Int32} (h1 : j_wrong_0 (xs (i + 1).toNatClampNeg) σ = some (r, σ1)) (h2 : m_wrong_117 (xs (i + 1).toNatClampNeg) σ1 = some (r, σ2)) {Q : Option Value → Sg → Prop} (hk : Rc (some (L, xs)) (Ev MT CT d) sgW (1342, [(0, .ref 2000), (1, .ref 0), (2, .ref 117), (3, .int i)], [], σ2) Q) : Rc (some (L, xs)) (Ev MT CT d) sgW (983, [(0, .ref 2000), (1, .ref 0), (2, .ref 117), (3, .int i)], [], σ) Q := by
  refine Rc.blk (c := [_]) (s2 := (989, [(0, .ref 2000), (1, .ref 0), (2, .ref 117), (3, .int i)], [.int (xs (i + 1).toNatClampNeg), .ref 0], σ)) 192 rfl rfl (conj_c (⟨rfl, g1⟩) (trivial)) ?_
  refine Rc.call (Ev.mono d) (v := some (.int r)) (as := [.ref 0, .int (xs (i + 1).toNatClampNeg)]) (r := []) 193 rfl rfl rfl rfl ⟨rfl, Nat.le_of_ble_eq_true rfl⟩ (j_wrong_0_ok (by omega) h1) ?_
  show Rc _ _ _ (992, [(0, .ref 2000), (1, .ref 0), (2, .ref 117), (3, .int i)], [.int r], σ1) _
  refine Rc.blk (c := [_]) (s2 := (998, [(0, .ref 2000), (1, .ref 0), (2, .ref 117), (3, .int i)], [.int (xs (i + 1).toNatClampNeg), .ref 117, .int r], σ1)) 194 rfl rfl (conj_c (⟨rfl, g1⟩) (trivial)) ?_
  refine Rc.call (Ev.mono d) (v := some (.int r)) (as := [.ref 117, .int (xs (i + 1).toNatClampNeg)]) (r := [.int r]) 195 rfl rfl rfl rfl ⟨rfl, Nat.le_of_ble_eq_true rfl⟩ (m_wrong_117_ok (by omega) h2) ?_
  show Rc _ _ _ (1001, [(0, .ref 2000), (1, .ref 0), (2, .ref 117), (3, .int i)], [.int r, .int r], σ2) _
  refine Rc.blk (s2 := (if r = r then 1342 else 1004, [(0, .ref 2000), (1, .ref 0), (2, .ref 117), (3, .int i)], [], σ2)) 196 rfl rfl (trivial) ?_
  refine Rc.ifp rfl ?_
  exact hk
theorem law_c28 {d : Nat} (hd : 70 ≤ d) {L : Nat} {xs : Nat → Int32} {i : Int32} (g1 : vp_in (i + 1) L) (g2 : vp_in (i + 2) L) {σ σ1 σ2 : Sg} {r : Int32} (h1 : j_sides_0 (xs (i + 1).toNatClampNeg) (xs (i + 2).toNatClampNeg) σ = some (r, σ1)) (h2 : m_sides_117 (xs (i + 1).toNatClampNeg) (xs (i + 2).toNatClampNeg) σ1 = some (r, σ2)) {Q : Option Value → Sg → Prop} (hk : Rc (some (L, xs)) (Ev MT CT d) sgW (1342, [(0, .ref 2000), (1, .ref 0), (2, .ref 117), (3, .int i)], [], σ2) Q) : Rc (some (L, xs)) (Ev MT CT d) sgW (1006, [(0, .ref 2000), (1, .ref 0), (2, .ref 117), (3, .int i)], [], σ) Q := by
  refine Rc.blk (c := [_, _]) (s2 := (1017, [(0, .ref 2000), (1, .ref 0), (2, .ref 117), (3, .int i)], [.int (xs (i + 2).toNatClampNeg), .int (xs (i + 1).toNatClampNeg), .ref 0], σ)) 199 rfl rfl (conj_c (⟨rfl, g1⟩) (conj_c (⟨rfl, g2⟩) (trivial))) ?_
  refine Rc.call (Ev.mono d) (v := some (.int r)) (as := [.ref 0, .int (xs (i + 1).toNatClampNeg), .int (xs (i + 2).toNatClampNeg)]) (r := []) 200 rfl rfl rfl rfl ⟨rfl, Nat.le_of_ble_eq_true rfl⟩ (j_sides_0_ok (by omega) h1) ?_
  show Rc _ _ _ (1020, [(0, .ref 2000), (1, .ref 0), (2, .ref 117), (3, .int i)], [.int r], σ1) _
  refine Rc.blk (c := [_, _]) (s2 := (1031, [(0, .ref 2000), (1, .ref 0), (2, .ref 117), (3, .int i)], [.int (xs (i + 2).toNatClampNeg), .int (xs (i + 1).toNatClampNeg), .ref 117, .int r], σ1)) 201 rfl rfl (conj_c (⟨rfl, g1⟩) (conj_c (⟨rfl, g2⟩) (trivial))) ?_
  refine Rc.call (Ev.mono d) (v := some (.int r)) (as := [.ref 117, .int (xs (i + 1).toNatClampNeg), .int (xs (i + 2).toNatClampNeg)]) (r := [.int r]) 202 rfl rfl rfl rfl ⟨rfl, Nat.le_of_ble_eq_true rfl⟩ (m_sides_117_ok (by omega) h2) ?_
  show Rc _ _ _ (1034, [(0, .ref 2000), (1, .ref 0), (2, .ref 117), (3, .int i)], [.int r, .int r], σ2) _
  refine Rc.blk (s2 := (if r = r then 1342 else 1037, [(0, .ref 2000), (1, .ref 0), (2, .ref 117), (3, .int i)], [], σ2)) 203 rfl rfl (trivial) ?_
  refine Rc.ifp rfl ?_
  exact hk
theorem law_c29 {d : Nat} (hd : 70 ≤ d) {L : Nat} {xs : Nat → Int32} {i : Int32} (g1 : vp_in (i + 1) L) {σ σ1 σ2 : Sg} {r : Int32} (h1 : j_mend_0 (xs (i + 1).toNatClampNeg) σ = some (r, σ1)) (h2 : m_mend_117 (xs (i + 1).toNatClampNeg) σ1 = some (r, σ2)) {Q : Option Value → Sg → Prop} (hk : Rc (some (L, xs)) (Ev MT CT d) sgW (1342, [(0, .ref 2000), (1, .ref 0), (2, .ref 117), (3, .int i)], [], σ2) Q) : Rc (some (L, xs)) (Ev MT CT d) sgW (1039, [(0, .ref 2000), (1, .ref 0), (2, .ref 117), (3, .int i)], [], σ) Q := by
  refine Rc.blk (c := [_]) (s2 := (1045, [(0, .ref 2000), (1, .ref 0), (2, .ref 117), (3, .int i)], [.int (xs (i + 1).toNatClampNeg), .ref 0], σ)) 206 rfl rfl (conj_c (⟨rfl, g1⟩) (trivial)) ?_
  refine Rc.call (Ev.mono d) (v := some (.int r)) (as := [.ref 0, .int (xs (i + 1).toNatClampNeg)]) (r := []) 207 rfl rfl rfl rfl ⟨rfl, Nat.le_of_ble_eq_true rfl⟩ (j_mend_0_ok (by omega) h1) ?_
  show Rc _ _ _ (1048, [(0, .ref 2000), (1, .ref 0), (2, .ref 117), (3, .int i)], [.int r], σ1) _
  refine Rc.blk (c := [_]) (s2 := (1054, [(0, .ref 2000), (1, .ref 0), (2, .ref 117), (3, .int i)], [.int (xs (i + 1).toNatClampNeg), .ref 117, .int r], σ1)) 208 rfl rfl (conj_c (⟨rfl, g1⟩) (trivial)) ?_
  refine Rc.call (Ev.mono d) (v := some (.int r)) (as := [.ref 117, .int (xs (i + 1).toNatClampNeg)]) (r := [.int r]) 209 rfl rfl rfl rfl ⟨rfl, Nat.le_of_ble_eq_true rfl⟩ (m_mend_117_ok (by omega) h2) ?_
  show Rc _ _ _ (1057, [(0, .ref 2000), (1, .ref 0), (2, .ref 117), (3, .int i)], [.int r, .int r], σ2) _
  refine Rc.blk (s2 := (if r = r then 1342 else 1060, [(0, .ref 2000), (1, .ref 0), (2, .ref 117), (3, .int i)], [], σ2)) 210 rfl rfl (trivial) ?_
  refine Rc.ifp rfl ?_
  exact hk
theorem law_c30 {d : Nat} (hd : 70 ≤ d) {L : Nat} {xs : Nat → Int32} {i : Int32} (g1 : vp_in (i + 1) L) (g2 : vp_in (i + 2) L) (g3 : vp_in (i + 3) L) {σ σ1 σ2 : Sg} {r : Int32} (h1 : j_lots_0 (xs (i + 1).toNatClampNeg) (xs (i + 2).toNatClampNeg) (xs (i + 3).toNatClampNeg) σ = some (r, σ1)) (h2 : m_lots_117 (xs (i + 1).toNatClampNeg) (xs (i + 2).toNatClampNeg) (xs (i + 3).toNatClampNeg) σ1 = some (r, σ2)) {Q : Option Value → Sg → Prop} (hk : Rc (some (L, xs)) (Ev MT CT d) sgW (1342, [(0, .ref 2000), (1, .ref 0), (2, .ref 117), (3, .int i)], [], σ2) Q) : Rc (some (L, xs)) (Ev MT CT d) sgW (1062, [(0, .ref 2000), (1, .ref 0), (2, .ref 117), (3, .int i)], [], σ) Q := by
  refine Rc.blk (c := [_, _, _]) (s2 := (1078, [(0, .ref 2000), (1, .ref 0), (2, .ref 117), (3, .int i)], [.int (xs (i + 3).toNatClampNeg), .int (xs (i + 2).toNatClampNeg), .int (xs (i + 1).toNatClampNeg), .ref 0], σ)) 213 rfl rfl (conj_c (⟨rfl, g1⟩) (conj_c (⟨rfl, g2⟩) (conj_c (⟨rfl, g3⟩) (trivial)))) ?_
  refine Rc.call (Ev.mono d) (v := some (.int r)) (as := [.ref 0, .int (xs (i + 1).toNatClampNeg), .int (xs (i + 2).toNatClampNeg), .int (xs (i + 3).toNatClampNeg)]) (r := []) 214 rfl rfl rfl rfl ⟨rfl, Nat.le_of_ble_eq_true rfl⟩ (j_lots_0_ok (by omega) h1) ?_
  show Rc _ _ _ (1081, [(0, .ref 2000), (1, .ref 0), (2, .ref 117), (3, .int i)], [.int r], σ1) _
  refine Rc.blk (c := [_, _, _]) (s2 := (1097, [(0, .ref 2000), (1, .ref 0), (2, .ref 117), (3, .int i)], [.int (xs (i + 3).toNatClampNeg), .int (xs (i + 2).toNatClampNeg), .int (xs (i + 1).toNatClampNeg), .ref 117, .int r], σ1)) 215 rfl rfl (conj_c (⟨rfl, g1⟩) (conj_c (⟨rfl, g2⟩) (conj_c (⟨rfl, g3⟩) (trivial)))) ?_
  refine Rc.call (Ev.mono d) (v := some (.int r)) (as := [.ref 117, .int (xs (i + 1).toNatClampNeg), .int (xs (i + 2).toNatClampNeg), .int (xs (i + 3).toNatClampNeg)]) (r := [.int r]) 216 rfl rfl rfl rfl ⟨rfl, Nat.le_of_ble_eq_true rfl⟩ (m_lots_117_ok (by omega) h2) ?_
  show Rc _ _ _ (1100, [(0, .ref 2000), (1, .ref 0), (2, .ref 117), (3, .int i)], [.int r, .int r], σ2) _
  refine Rc.blk (s2 := (if r = r then 1342 else 1103, [(0, .ref 2000), (1, .ref 0), (2, .ref 117), (3, .int i)], [], σ2)) 217 rfl rfl (trivial) ?_
  refine Rc.ifp rfl ?_
  exact hk
theorem law_c31 {d : Nat} (hd : 70 ≤ d) {L : Nat} {xs : Nat → Int32} {i : Int32} (g1 : vp_in (i + 1) L) (g2 : vp_in (i + 2) L) {σ σ1 σ2 : Sg} {r : Int32} (h1 : j_list_0 (xs (i + 1).toNatClampNeg) (xs (i + 2).toNatClampNeg) σ = some (r, σ1)) (h2 : m_list_117 (xs (i + 1).toNatClampNeg) (xs (i + 2).toNatClampNeg) σ1 = some (r, σ2)) {Q : Option Value → Sg → Prop} (hk : Rc (some (L, xs)) (Ev MT CT d) sgW (1342, [(0, .ref 2000), (1, .ref 0), (2, .ref 117), (3, .int i)], [], σ2) Q) : Rc (some (L, xs)) (Ev MT CT d) sgW (1105, [(0, .ref 2000), (1, .ref 0), (2, .ref 117), (3, .int i)], [], σ) Q := by
  refine Rc.blk (c := [_, _]) (s2 := (1116, [(0, .ref 2000), (1, .ref 0), (2, .ref 117), (3, .int i)], [.int (xs (i + 2).toNatClampNeg), .int (xs (i + 1).toNatClampNeg), .ref 0], σ)) 220 rfl rfl (conj_c (⟨rfl, g1⟩) (conj_c (⟨rfl, g2⟩) (trivial))) ?_
  refine Rc.call (Ev.mono d) (v := some (.int r)) (as := [.ref 0, .int (xs (i + 1).toNatClampNeg), .int (xs (i + 2).toNatClampNeg)]) (r := []) 221 rfl rfl rfl rfl ⟨rfl, Nat.le_of_ble_eq_true rfl⟩ (j_list_0_ok (by omega) h1) ?_
  show Rc _ _ _ (1119, [(0, .ref 2000), (1, .ref 0), (2, .ref 117), (3, .int i)], [.int r], σ1) _
  refine Rc.blk (c := [_, _]) (s2 := (1130, [(0, .ref 2000), (1, .ref 0), (2, .ref 117), (3, .int i)], [.int (xs (i + 2).toNatClampNeg), .int (xs (i + 1).toNatClampNeg), .ref 117, .int r], σ1)) 222 rfl rfl (conj_c (⟨rfl, g1⟩) (conj_c (⟨rfl, g2⟩) (trivial))) ?_
  refine Rc.call (Ev.mono d) (v := some (.int r)) (as := [.ref 117, .int (xs (i + 1).toNatClampNeg), .int (xs (i + 2).toNatClampNeg)]) (r := [.int r]) 223 rfl rfl rfl rfl ⟨rfl, Nat.le_of_ble_eq_true rfl⟩ (m_list_117_ok (by omega) h2) ?_
  show Rc _ _ _ (1133, [(0, .ref 2000), (1, .ref 0), (2, .ref 117), (3, .int i)], [.int r, .int r], σ2) _
  refine Rc.blk (s2 := (if r = r then 1342 else 1136, [(0, .ref 2000), (1, .ref 0), (2, .ref 117), (3, .int i)], [], σ2)) 224 rfl rfl (trivial) ?_
  refine Rc.ifp rfl ?_
  exact hk
theorem law_c32 {d : Nat} (hd : 70 ≤ d) {L : Nat} {xs : Nat → Int32} {i : Int32} (g1 : vp_in (i + 1) L) (g2 : vp_in (i + 2) L) (g3 : vp_in (i + 3) L) {σ σ1 σ2 : Sg} {r : Int32} (h1 : j_put_0 (xs (i + 1).toNatClampNeg) (xs (i + 2).toNatClampNeg) (xs (i + 3).toNatClampNeg) σ = some (r, σ1)) (h2 : m_put_117 (xs (i + 1).toNatClampNeg) (xs (i + 2).toNatClampNeg) (xs (i + 3).toNatClampNeg) σ1 = some (r, σ2)) {Q : Option Value → Sg → Prop} (hk : Rc (some (L, xs)) (Ev MT CT d) sgW (1342, [(0, .ref 2000), (1, .ref 0), (2, .ref 117), (3, .int i)], [], σ2) Q) : Rc (some (L, xs)) (Ev MT CT d) sgW (1138, [(0, .ref 2000), (1, .ref 0), (2, .ref 117), (3, .int i)], [], σ) Q := by
  refine Rc.blk (c := [_, _, _]) (s2 := (1154, [(0, .ref 2000), (1, .ref 0), (2, .ref 117), (3, .int i)], [.int (xs (i + 3).toNatClampNeg), .int (xs (i + 2).toNatClampNeg), .int (xs (i + 1).toNatClampNeg), .ref 0], σ)) 227 rfl rfl (conj_c (⟨rfl, g1⟩) (conj_c (⟨rfl, g2⟩) (conj_c (⟨rfl, g3⟩) (trivial)))) ?_
  refine Rc.call (Ev.mono d) (v := some (.int r)) (as := [.ref 0, .int (xs (i + 1).toNatClampNeg), .int (xs (i + 2).toNatClampNeg), .int (xs (i + 3).toNatClampNeg)]) (r := []) 228 rfl rfl rfl rfl ⟨rfl, Nat.le_of_ble_eq_true rfl⟩ (j_put_0_ok (by omega) h1) ?_
  show Rc _ _ _ (1157, [(0, .ref 2000), (1, .ref 0), (2, .ref 117), (3, .int i)], [.int r], σ1) _
  refine Rc.blk (c := [_, _, _]) (s2 := (1173, [(0, .ref 2000), (1, .ref 0), (2, .ref 117), (3, .int i)], [.int (xs (i + 3).toNatClampNeg), .int (xs (i + 2).toNatClampNeg), .int (xs (i + 1).toNatClampNeg), .ref 117, .int r], σ1)) 229 rfl rfl (conj_c (⟨rfl, g1⟩) (conj_c (⟨rfl, g2⟩) (conj_c (⟨rfl, g3⟩) (trivial)))) ?_
  refine Rc.call (Ev.mono d) (v := some (.int r)) (as := [.ref 117, .int (xs (i + 1).toNatClampNeg), .int (xs (i + 2).toNatClampNeg), .int (xs (i + 3).toNatClampNeg)]) (r := [.int r]) 230 rfl rfl rfl rfl ⟨rfl, Nat.le_of_ble_eq_true rfl⟩ (m_put_117_ok (by omega) h2) ?_
  show Rc _ _ _ (1176, [(0, .ref 2000), (1, .ref 0), (2, .ref 117), (3, .int i)], [.int r, .int r], σ2) _
  refine Rc.blk (s2 := (if r = r then 1342 else 1179, [(0, .ref 2000), (1, .ref 0), (2, .ref 117), (3, .int i)], [], σ2)) 231 rfl rfl (trivial) ?_
  refine Rc.ifp rfl ?_
  exact hk
theorem law_c33 {d : Nat} (hd : 70 ≤ d) {L : Nat} {xs : Nat → Int32} {i : Int32} (g1 : vp_in (i + 1) L) (g2 : vp_in (i + 2) L) {σ σ1 σ2 : Sg} {r : Int32} (h1 : j_look_0 (xs (i + 1).toNatClampNeg) (xs (i + 2).toNatClampNeg) σ = some (r, σ1)) (h2 : m_look_117 (xs (i + 1).toNatClampNeg) (xs (i + 2).toNatClampNeg) σ1 = some (r, σ2)) {Q : Option Value → Sg → Prop} (hk : Rc (some (L, xs)) (Ev MT CT d) sgW (1342, [(0, .ref 2000), (1, .ref 0), (2, .ref 117), (3, .int i)], [], σ2) Q) : Rc (some (L, xs)) (Ev MT CT d) sgW (1181, [(0, .ref 2000), (1, .ref 0), (2, .ref 117), (3, .int i)], [], σ) Q := by
  refine Rc.blk (c := [_, _]) (s2 := (1192, [(0, .ref 2000), (1, .ref 0), (2, .ref 117), (3, .int i)], [.int (xs (i + 2).toNatClampNeg), .int (xs (i + 1).toNatClampNeg), .ref 0], σ)) 234 rfl rfl (conj_c (⟨rfl, g1⟩) (conj_c (⟨rfl, g2⟩) (trivial))) ?_
  refine Rc.call (Ev.mono d) (v := some (.int r)) (as := [.ref 0, .int (xs (i + 1).toNatClampNeg), .int (xs (i + 2).toNatClampNeg)]) (r := []) 235 rfl rfl rfl rfl ⟨rfl, Nat.le_of_ble_eq_true rfl⟩ (j_look_0_ok (by omega) h1) ?_
  show Rc _ _ _ (1195, [(0, .ref 2000), (1, .ref 0), (2, .ref 117), (3, .int i)], [.int r], σ1) _
  refine Rc.blk (c := [_, _]) (s2 := (1206, [(0, .ref 2000), (1, .ref 0), (2, .ref 117), (3, .int i)], [.int (xs (i + 2).toNatClampNeg), .int (xs (i + 1).toNatClampNeg), .ref 117, .int r], σ1)) 236 rfl rfl (conj_c (⟨rfl, g1⟩) (conj_c (⟨rfl, g2⟩) (trivial))) ?_
  refine Rc.call (Ev.mono d) (v := some (.int r)) (as := [.ref 117, .int (xs (i + 1).toNatClampNeg), .int (xs (i + 2).toNatClampNeg)]) (r := [.int r]) 237 rfl rfl rfl rfl ⟨rfl, Nat.le_of_ble_eq_true rfl⟩ (m_look_117_ok (by omega) h2) ?_
  show Rc _ _ _ (1209, [(0, .ref 2000), (1, .ref 0), (2, .ref 117), (3, .int i)], [.int r, .int r], σ2) _
  refine Rc.blk (s2 := (if r = r then 1342 else 1212, [(0, .ref 2000), (1, .ref 0), (2, .ref 117), (3, .int i)], [], σ2)) 238 rfl rfl (trivial) ?_
  refine Rc.ifp rfl ?_
  exact hk
theorem law_c34 {d : Nat} (hd : 70 ≤ d) {L : Nat} {xs : Nat → Int32} {i : Int32} (g1 : vp_in (i + 1) L) (g2 : vp_in (i + 2) L) (g3 : vp_in (i + 3) L) {σ σ1 σ2 : Sg} {r : Int32} (h1 : j_lays_0 (xs (i + 1).toNatClampNeg) (xs (i + 2).toNatClampNeg) (xs (i + 3).toNatClampNeg) σ = some (r, σ1)) (h2 : m_lays3_117 (xs (i + 1).toNatClampNeg) (xs (i + 2).toNatClampNeg) (xs (i + 3).toNatClampNeg) σ1 = some (r, σ2)) {Q : Option Value → Sg → Prop} (hk : Rc (some (L, xs)) (Ev MT CT d) sgW (1342, [(0, .ref 2000), (1, .ref 0), (2, .ref 117), (3, .int i)], [], σ2) Q) : Rc (some (L, xs)) (Ev MT CT d) sgW (1214, [(0, .ref 2000), (1, .ref 0), (2, .ref 117), (3, .int i)], [], σ) Q := by
  refine Rc.blk (c := [_, _, _]) (s2 := (1230, [(0, .ref 2000), (1, .ref 0), (2, .ref 117), (3, .int i)], [.int (xs (i + 3).toNatClampNeg), .int (xs (i + 2).toNatClampNeg), .int (xs (i + 1).toNatClampNeg), .ref 0], σ)) 241 rfl rfl (conj_c (⟨rfl, g1⟩) (conj_c (⟨rfl, g2⟩) (conj_c (⟨rfl, g3⟩) (trivial)))) ?_
  refine Rc.call (Ev.mono d) (v := some (.int r)) (as := [.ref 0, .int (xs (i + 1).toNatClampNeg), .int (xs (i + 2).toNatClampNeg), .int (xs (i + 3).toNatClampNeg)]) (r := []) 242 rfl rfl rfl rfl ⟨rfl, Nat.le_of_ble_eq_true rfl⟩ (j_lays_0_ok (by omega) h1) ?_
  show Rc _ _ _ (1233, [(0, .ref 2000), (1, .ref 0), (2, .ref 117), (3, .int i)], [.int r], σ1) _
  refine Rc.blk (c := [_, _, _]) (s2 := (1249, [(0, .ref 2000), (1, .ref 0), (2, .ref 117), (3, .int i)], [.int (xs (i + 3).toNatClampNeg), .int (xs (i + 2).toNatClampNeg), .int (xs (i + 1).toNatClampNeg), .ref 117, .int r], σ1)) 243 rfl rfl (conj_c (⟨rfl, g1⟩) (conj_c (⟨rfl, g2⟩) (conj_c (⟨rfl, g3⟩) (trivial)))) ?_
  refine Rc.call (Ev.mono d) (v := some (.int r)) (as := [.ref 117, .int (xs (i + 1).toNatClampNeg), .int (xs (i + 2).toNatClampNeg), .int (xs (i + 3).toNatClampNeg)]) (r := [.int r]) 244 rfl rfl rfl rfl ⟨rfl, Nat.le_of_ble_eq_true rfl⟩ (m_lays3_117_ok (by omega) h2) ?_
  show Rc _ _ _ (1252, [(0, .ref 2000), (1, .ref 0), (2, .ref 117), (3, .int i)], [.int r, .int r], σ2) _
  refine Rc.blk (s2 := (if r = r then 1342 else 1255, [(0, .ref 2000), (1, .ref 0), (2, .ref 117), (3, .int i)], [], σ2)) 245 rfl rfl (trivial) ?_
  refine Rc.ifp rfl ?_
  exact hk
theorem law_c35 {d : Nat} (hd : 70 ≤ d) {L : Nat} {xs : Nat → Int32} {i : Int32} (g1 : vp_in (i + 1) L) {σ σ1 σ2 : Sg} {r : Int32} (h1 : j_judge_0 (xs (i + 1).toNatClampNeg) σ = some (r, σ1)) (h2 : m_judge_117 (xs (i + 1).toNatClampNeg) σ1 = some (r, σ2)) {Q : Option Value → Sg → Prop} (hk : Rc (some (L, xs)) (Ev MT CT d) sgW (1342, [(0, .ref 2000), (1, .ref 0), (2, .ref 117), (3, .int i)], [], σ2) Q) : Rc (some (L, xs)) (Ev MT CT d) sgW (1257, [(0, .ref 2000), (1, .ref 0), (2, .ref 117), (3, .int i)], [], σ) Q := by
  refine Rc.blk (c := [_]) (s2 := (1263, [(0, .ref 2000), (1, .ref 0), (2, .ref 117), (3, .int i)], [.int (xs (i + 1).toNatClampNeg), .ref 0], σ)) 248 rfl rfl (conj_c (⟨rfl, g1⟩) (trivial)) ?_
  refine Rc.call (Ev.mono d) (v := some (.int r)) (as := [.ref 0, .int (xs (i + 1).toNatClampNeg)]) (r := []) 249 rfl rfl rfl rfl ⟨rfl, Nat.le_of_ble_eq_true rfl⟩ (j_judge_0_ok (by omega) h1) ?_
  show Rc _ _ _ (1266, [(0, .ref 2000), (1, .ref 0), (2, .ref 117), (3, .int i)], [.int r], σ1) _
  refine Rc.blk (c := [_]) (s2 := (1272, [(0, .ref 2000), (1, .ref 0), (2, .ref 117), (3, .int i)], [.int (xs (i + 1).toNatClampNeg), .ref 117, .int r], σ1)) 250 rfl rfl (conj_c (⟨rfl, g1⟩) (trivial)) ?_
  refine Rc.call (Ev.mono d) (v := some (.int r)) (as := [.ref 117, .int (xs (i + 1).toNatClampNeg)]) (r := [.int r]) 251 rfl rfl rfl rfl ⟨rfl, Nat.le_of_ble_eq_true rfl⟩ (m_judge_117_ok (by omega) h2) ?_
  show Rc _ _ _ (1275, [(0, .ref 2000), (1, .ref 0), (2, .ref 117), (3, .int i)], [.int r, .int r], σ2) _
  refine Rc.blk (s2 := (if r = r then 1342 else 1278, [(0, .ref 2000), (1, .ref 0), (2, .ref 117), (3, .int i)], [], σ2)) 252 rfl rfl (trivial) ?_
  refine Rc.ifp rfl ?_
  exact hk
theorem law_c36 {d : Nat} (hd : 70 ≤ d) {L : Nat} {xs : Nat → Int32} {i : Int32} {σ σ1 σ2 : Sg} {r : Int32} (h1 : j_undo_0 σ = some (r, σ1)) (h2 : m_undo_117 σ1 = some (r, σ2)) {Q : Option Value → Sg → Prop} (hk : Rc (some (L, xs)) (Ev MT CT d) sgW (1342, [(0, .ref 2000), (1, .ref 0), (2, .ref 117), (3, .int i)], [], σ2) Q) : Rc (some (L, xs)) (Ev MT CT d) sgW (1280, [(0, .ref 2000), (1, .ref 0), (2, .ref 117), (3, .int i)], [], σ) Q := by
  refine Rc.blk (c := []) (s2 := (1281, [(0, .ref 2000), (1, .ref 0), (2, .ref 117), (3, .int i)], [.ref 0], σ)) 255 rfl rfl (trivial) ?_
  refine Rc.call (Ev.mono d) (v := some (.int r)) (as := [.ref 0]) (r := []) 256 rfl rfl rfl rfl ⟨rfl, Nat.le_of_ble_eq_true rfl⟩ (j_undo_0_ok (by omega) h1) ?_
  show Rc _ _ _ (1284, [(0, .ref 2000), (1, .ref 0), (2, .ref 117), (3, .int i)], [.int r], σ1) _
  refine Rc.blk (c := []) (s2 := (1285, [(0, .ref 2000), (1, .ref 0), (2, .ref 117), (3, .int i)], [.ref 117, .int r], σ1)) 257 rfl rfl (trivial) ?_
  refine Rc.call (Ev.mono d) (v := some (.int r)) (as := [.ref 117]) (r := [.int r]) 258 rfl rfl rfl rfl ⟨rfl, Nat.le_of_ble_eq_true rfl⟩ (m_undo_117_ok (by omega) h2) ?_
  show Rc _ _ _ (1288, [(0, .ref 2000), (1, .ref 0), (2, .ref 117), (3, .int i)], [.int r, .int r], σ2) _
  refine Rc.blk (s2 := (if r = r then 1342 else 1291, [(0, .ref 2000), (1, .ref 0), (2, .ref 117), (3, .int i)], [], σ2)) 259 rfl rfl (trivial) ?_
  refine Rc.ifp rfl ?_
  exact hk
theorem law_c37 {d : Nat} (hd : 70 ≤ d) {L : Nat} {xs : Nat → Int32} {i : Int32} {σ σ1 σ2 : Sg} {r : Int32} (h1 : j_image_0 σ = some (r, σ1)) (h2 : m_image_117 σ1 = some (r, σ2)) {Q : Option Value → Sg → Prop} (hk : Rc (some (L, xs)) (Ev MT CT d) sgW (1342, [(0, .ref 2000), (1, .ref 0), (2, .ref 117), (3, .int i)], [], σ2) Q) : Rc (some (L, xs)) (Ev MT CT d) sgW (1293, [(0, .ref 2000), (1, .ref 0), (2, .ref 117), (3, .int i)], [], σ) Q := by
  refine Rc.blk (c := []) (s2 := (1294, [(0, .ref 2000), (1, .ref 0), (2, .ref 117), (3, .int i)], [.ref 0], σ)) 262 rfl rfl (trivial) ?_
  refine Rc.call (Ev.mono d) (v := some (.int r)) (as := [.ref 0]) (r := []) 263 rfl rfl rfl rfl ⟨rfl, Nat.le_of_ble_eq_true rfl⟩ (j_image_0_ok (by omega) h1) ?_
  show Rc _ _ _ (1297, [(0, .ref 2000), (1, .ref 0), (2, .ref 117), (3, .int i)], [.int r], σ1) _
  refine Rc.blk (c := []) (s2 := (1298, [(0, .ref 2000), (1, .ref 0), (2, .ref 117), (3, .int i)], [.ref 117, .int r], σ1)) 264 rfl rfl (trivial) ?_
  refine Rc.call (Ev.mono d) (v := some (.int r)) (as := [.ref 117]) (r := [.int r]) 265 rfl rfl rfl rfl ⟨rfl, Nat.le_of_ble_eq_true rfl⟩ (m_image_117_ok (by omega) h2) ?_
  show Rc _ _ _ (1301, [(0, .ref 2000), (1, .ref 0), (2, .ref 117), (3, .int i)], [.int r, .int r], σ2) _
  refine Rc.blk (s2 := (if r = r then 1342 else 1304, [(0, .ref 2000), (1, .ref 0), (2, .ref 117), (3, .int i)], [], σ2)) 266 rfl rfl (trivial) ?_
  refine Rc.ifp rfl ?_
  exact hk
theorem law_c38 {d : Nat} (hd : 70 ≤ d) {L : Nat} {xs : Nat → Int32} {i : Int32} {σ σ1 σ2 : Sg} {r : Int32} (h1 : j_on_0 σ = some (r, σ1)) (h2 : m_on_117 σ1 = some (r, σ2)) {Q : Option Value → Sg → Prop} (hk : Rc (some (L, xs)) (Ev MT CT d) sgW (1342, [(0, .ref 2000), (1, .ref 0), (2, .ref 117), (3, .int i)], [], σ2) Q) : Rc (some (L, xs)) (Ev MT CT d) sgW (1306, [(0, .ref 2000), (1, .ref 0), (2, .ref 117), (3, .int i)], [], σ) Q := by
  refine Rc.blk (c := []) (s2 := (1307, [(0, .ref 2000), (1, .ref 0), (2, .ref 117), (3, .int i)], [.ref 0], σ)) 269 rfl rfl (trivial) ?_
  refine Rc.call (Ev.mono d) (v := some (.int r)) (as := [.ref 0]) (r := []) 270 rfl rfl rfl rfl ⟨rfl, Nat.le_of_ble_eq_true rfl⟩ (j_on_0_ok (by omega) h1) ?_
  show Rc _ _ _ (1310, [(0, .ref 2000), (1, .ref 0), (2, .ref 117), (3, .int i)], [.int r], σ1) _
  refine Rc.blk (c := []) (s2 := (1311, [(0, .ref 2000), (1, .ref 0), (2, .ref 117), (3, .int i)], [.ref 117, .int r], σ1)) 271 rfl rfl (trivial) ?_
  refine Rc.call (Ev.mono d) (v := some (.int r)) (as := [.ref 117]) (r := [.int r]) 272 rfl rfl rfl rfl ⟨rfl, Nat.le_of_ble_eq_true rfl⟩ (m_on_117_ok (by omega) h2) ?_
  show Rc _ _ _ (1314, [(0, .ref 2000), (1, .ref 0), (2, .ref 117), (3, .int i)], [.int r, .int r], σ2) _
  refine Rc.blk (s2 := (if r = r then 1342 else 1317, [(0, .ref 2000), (1, .ref 0), (2, .ref 117), (3, .int i)], [], σ2)) 273 rfl rfl (trivial) ?_
  refine Rc.ifp rfl ?_
  exact hk
theorem law_c39 {d : Nat} (hd : 70 ≤ d) {L : Nat} {xs : Nat → Int32} {i : Int32} (g1 : vp_in (i + 1) L) {σ σ1 σ2 : Sg} {r : Int32} (h1 : j_count_0 (xs (i + 1).toNatClampNeg) σ = some (r, σ1)) (h2 : m_count_117 (xs (i + 1).toNatClampNeg) σ1 = some (r, σ2)) {Q : Option Value → Sg → Prop} (hk : Rc (some (L, xs)) (Ev MT CT d) sgW (1342, [(0, .ref 2000), (1, .ref 0), (2, .ref 117), (3, .int i)], [], σ2) Q) : Rc (some (L, xs)) (Ev MT CT d) sgW (1319, [(0, .ref 2000), (1, .ref 0), (2, .ref 117), (3, .int i)], [], σ) Q := by
  refine Rc.blk (c := [_]) (s2 := (1325, [(0, .ref 2000), (1, .ref 0), (2, .ref 117), (3, .int i)], [.int (xs (i + 1).toNatClampNeg), .ref 0], σ)) 276 rfl rfl (conj_c (⟨rfl, g1⟩) (trivial)) ?_
  refine Rc.call (Ev.mono d) (v := some (.int r)) (as := [.ref 0, .int (xs (i + 1).toNatClampNeg)]) (r := []) 277 rfl rfl rfl rfl ⟨rfl, Nat.le_of_ble_eq_true rfl⟩ (j_count_0_ok (by omega) h1) ?_
  show Rc _ _ _ (1328, [(0, .ref 2000), (1, .ref 0), (2, .ref 117), (3, .int i)], [.int r], σ1) _
  refine Rc.blk (c := [_]) (s2 := (1334, [(0, .ref 2000), (1, .ref 0), (2, .ref 117), (3, .int i)], [.int (xs (i + 1).toNatClampNeg), .ref 117, .int r], σ1)) 278 rfl rfl (conj_c (⟨rfl, g1⟩) (trivial)) ?_
  refine Rc.call (Ev.mono d) (v := some (.int r)) (as := [.ref 117, .int (xs (i + 1).toNatClampNeg)]) (r := [.int r]) 279 rfl rfl rfl rfl ⟨rfl, Nat.le_of_ble_eq_true rfl⟩ (m_count_117_ok (by omega) h2) ?_
  show Rc _ _ _ (1337, [(0, .ref 2000), (1, .ref 0), (2, .ref 117), (3, .int i)], [.int r, .int r], σ2) _
  refine Rc.blk (s2 := (if r = r then 1342 else 1340, [(0, .ref 2000), (1, .ref 0), (2, .ref 117), (3, .int i)], [], σ2)) 280 rfl rfl (trivial) ?_
  refine Rc.ifp rfl ?_
  exact hk
/-- of every call: class and reference answer alike, and what stands between them stands again -/
def OpsOK (V : Nat → Sg → Prop) : Prop := ∀ (n : Nat) (σ : Sg), n < 512 → V n σ → ∀ a b c e : Int32, V (n + 1) σ ∧ (∃ r σ1 σ2, j_letter_0 a σ = some (r, σ1) ∧ m_letter_117 a σ1 = some (r, σ2) ∧ V (n + 1) σ2) ∧ (∃ r σ1 σ2, j_quantity_0 a σ = some (r, σ1) ∧ m_quantity_117 a σ1 = some (r, σ2) ∧ V (n + 1) σ2) ∧ (∃ r σ1 σ2, j_tell_0 a b c σ = some (r, σ1) ∧ m_tell_117 a b c σ1 = some (r, σ2) ∧ V (n + 1) σ2) ∧ (∃ r σ1 σ2, j_turn_0 a b σ = some (r, σ1) ∧ m_turn_117 a b σ1 = some (r, σ2) ∧ V (n + 1) σ2) ∧ (∃ r σ1 σ2, j_of_0 a b σ = some (r, σ1) ∧ m_of_117 a b σ1 = some (r, σ2) ∧ V (n + 1) σ2) ∧ (∃ r σ1 σ2, j_twin_0 a σ = some (r, σ1) ∧ m_twin_117 a σ1 = some (r, σ2) ∧ V (n + 1) σ2) ∧ (∃ r σ1 σ2, j_taken_0 a b σ = some (r, σ1) ∧ m_taken_117 a b σ1 = some (r, σ2) ∧ V (n + 1) σ2) ∧ (∃ r σ1 σ2, j_rank_0 a σ = some (r, σ1) ∧ m_rank_117 a σ1 = some (r, σ2) ∧ V (n + 1) σ2) ∧ (∃ r σ1 σ2, j_group_0 a b σ = some (r, σ1) ∧ m_group_117 a b σ1 = some (r, σ2) ∧ V (n + 1) σ2) ∧ (∃ r σ1 σ2, j_pure_0 a σ = some (r, σ1) ∧ m_pure_117 a σ1 = some (r, σ2) ∧ V (n + 1) σ2) ∧ (∃ r σ1 σ2, j_cover_0 a b c σ = some (r, σ1) ∧ m_cover_117 a b c σ1 = some (r, σ2) ∧ V (n + 1) σ2) ∧ (∃ r σ1 σ2, j_box_0 σ = some (r, σ1) ∧ m_box_117 σ1 = some (r, σ2) ∧ V (n + 1) σ2) ∧ (∃ r σ1 σ2, j_least_0 a σ = some (r, σ1) ∧ m_least_117 a σ1 = some (r, σ2) ∧ V (n + 1) σ2) ∧ (∃ r σ1 σ2, j_may_0 a σ = some (r, σ1) ∧ m_may_117 a σ1 = some (r, σ2) ∧ V (n + 1) σ2) ∧ (∃ r σ1 σ2, j_rest_0 a b c σ = some (r, σ1) ∧ m_rest_117 a b c σ1 = some (r, σ2) ∧ V (n + 1) σ2) ∧ (∃ r σ1 σ2, j_sets_0 a σ = some (r, σ1) ∧ m_sets1_117 a σ1 = some (r, σ2) ∧ V (n + 1) σ2) ∧ (∃ r σ1 σ2, j_sizes_0 a σ = some (r, σ1) ∧ m_sizes_117 a σ1 = some (r, σ2) ∧ V (n + 1) σ2) ∧ (∃ r σ1 σ2, j_odds_0 a σ = some (r, σ1) ∧ m_odds_117 a σ1 = some (r, σ2) ∧ V (n + 1) σ2) ∧ (∃ r σ1 σ2, j_scale_0 a b c σ = some (r, σ1) ∧ m_scale_117 a b c σ1 = some (r, σ2) ∧ V (n + 1) σ2) ∧ (∃ r σ1 σ2, j_scaled_0 a b σ = some (r, σ1) ∧ m_scaled_117 a b σ1 = some (r, σ2) ∧ V (n + 1) σ2) ∧ (∃ r σ1 σ2, j_alike_0 σ = some (r, σ1) ∧ m_alike_117 σ1 = some (r, σ2) ∧ V (n + 1) σ2) ∧ (∃ r σ1 σ2, j_must_0 a b c e σ = some (r, σ1) ∧ m_must_117 a b c e σ1 = some (r, σ2) ∧ V (n + 1) σ2) ∧ (∃ r σ1 σ2, j_whole_0 a b σ = some (r, σ1) ∧ m_whole_117 a b σ1 = some (r, σ2) ∧ V (n + 1) σ2) ∧ (∃ r σ1 σ2, j_off_0 a σ = some (r, σ1) ∧ m_off_117 a σ1 = some (r, σ2) ∧ V (n + 1) σ2) ∧ (∃ r σ1 σ2, j_fewest_0 a b σ = some (r, σ1) ∧ m_fewest_117 a b σ1 = some (r, σ2) ∧ V (n + 1) σ2) ∧ (∃ r σ1 σ2, j_had_0 a σ = some (r, σ1) ∧ m_had_117 a σ1 = some (r, σ2) ∧ V (n + 1) σ2) ∧ (∃ r σ1 σ2, j_formula_0 σ = some (r, σ1) ∧ m_formula_117 σ1 = some (r, σ2) ∧ V (n + 1) σ2) ∧ (∃ r σ1 σ2, j_wrong_0 a σ = some (r, σ1) ∧ m_wrong_117 a σ1 = some (r, σ2) ∧ V (n + 1) σ2) ∧ (∃ r σ1 σ2, j_sides_0 a b σ = some (r, σ1) ∧ m_sides_117 a b σ1 = some (r, σ2) ∧ V (n + 1) σ2) ∧ (∃ r σ1 σ2, j_mend_0 a σ = some (r, σ1) ∧ m_mend_117 a σ1 = some (r, σ2) ∧ V (n + 1) σ2) ∧ (∃ r σ1 σ2, j_lots_0 a b c σ = some (r, σ1) ∧ m_lots_117 a b c σ1 = some (r, σ2) ∧ V (n + 1) σ2) ∧ (∃ r σ1 σ2, j_list_0 a b σ = some (r, σ1) ∧ m_list_117 a b σ1 = some (r, σ2) ∧ V (n + 1) σ2) ∧ (∃ r σ1 σ2, j_put_0 a b c σ = some (r, σ1) ∧ m_put_117 a b c σ1 = some (r, σ2) ∧ V (n + 1) σ2) ∧ (∃ r σ1 σ2, j_look_0 a b σ = some (r, σ1) ∧ m_look_117 a b σ1 = some (r, σ2) ∧ V (n + 1) σ2) ∧ (∃ r σ1 σ2, j_lays_0 a b c σ = some (r, σ1) ∧ m_lays3_117 a b c σ1 = some (r, σ2) ∧ V (n + 1) σ2) ∧ (∃ r σ1 σ2, j_judge_0 a σ = some (r, σ1) ∧ m_judge_117 a σ1 = some (r, σ2) ∧ V (n + 1) σ2) ∧ (∃ r σ1 σ2, j_undo_0 σ = some (r, σ1) ∧ m_undo_117 σ1 = some (r, σ2) ∧ V (n + 1) σ2) ∧ (∃ r σ1 σ2, j_image_0 σ = some (r, σ1) ∧ m_image_117 σ1 = some (r, σ2) ∧ V (n + 1) σ2) ∧ (∃ r σ1 σ2, j_on_0 σ = some (r, σ1) ∧ m_on_117 σ1 = some (r, σ2) ∧ V (n + 1) σ2) ∧ (∃ r σ1 σ2, j_count_0 a σ = some (r, σ1) ∧ m_count_117 a σ1 = some (r, σ2) ∧ V (n + 1) σ2)
theorem law_loop {V : Nat → Sg → Prop} (hO : OpsOK V) {d : Nat} (hd : 70 ≤ d) {L : Nat} (hL : L ≤ 2560) {xs : Nat → Int32} : ∀ (k n : Nat) (σ : Sg), 5 * n ≤ L → L + 1 ≤ 5 * n + 5 * k → V n σ → Rc (some (L, xs)) (Ev MT CT d) sgW (18, [(0, .ref 2000), (1, .ref 0), (2, .ref 117), (3, .int (nI (5 * n)))], [], σ) (fun v _ => v = some (.int 1)) := by
  intro k
  induction k with
  | zero => intro n σ h1 h2; omega
  | succ k ih =>
    intro n σ h1 h2 hV
    have hsub : (Int32.ofNat L - 5).toInt = (L : Int) - 5 := by
      have e1 : (Int32.ofNat L).toInt = (L : Int) := nI_toInt (by omega)
      rw [Int32.toInt_sub, e1]
      have e2 : (5 : Int32).toInt = 5 := by decide
      rw [e2]
      apply Int.bmod_eq_of_le <;> omega
    have hi : (nI (5 * n)).toInt = ((5 * n : Nat) : Int) := nI_toInt (by omega)
    refine Rc.blk (s2 := (if Int32.ofNat L - 5 < nI (5 * n) then 1348 else 26, [(0, .ref 2000), (1, .ref 0), (2, .ref 117), (3, .int (nI (5 * n)))], [], σ)) 1 rfl rfl (conj_c rfl trivial) ?_
    by_cases c1 : Int32.ofNat L - 5 < nI (5 * n)
    · refine Rc.ifp c1 ?_
      refine Rc.blk (s2 := (1349, [(0, .ref 2000), (1, .ref 0), (2, .ref 117), (3, .int (nI (5 * n)))], [.int 1], σ)) 284 rfl rfl (trivial) ?_
      exact Rc.ret 285 rfl rfl rfl (Or.inr rfl) rfl
    · refine Rc.ifn c1 ?_
      have h5 : 5 * n + 5 ≤ L := by
        rcases Nat.lt_or_ge L (5 * n + 5) with q | q
        · exact absurd (Int32.lt_iff_toInt_lt.mpr (by rw [hsub, hi]; omega)) c1
        · exact q
      have g0 : vp_in (nI (5 * n)) L := vp_in_nI (by omega) (by omega)
      have gj : ∀ j : Nat, j < 5 → vp_in (nI (5 * n) + nI j) L := fun j hj => by rw [nI_add]; exact vp_in_nI (by omega) (by omega)
      have g1 : vp_in (nI (5 * n) + 1) L := gj 1 (by omega)
      have g2 : vp_in (nI (5 * n) + 2) L := gj 2 (by omega)
      have g3 : vp_in (nI (5 * n) + 3) L := gj 3 (by omega)
      have g4 : vp_in (nI (5 * n) + 4) L := gj 4 (by omega)
      obtain ⟨hV1, hops⟩ := hO n σ (by omega) hV (xs (nI (5 * n) + 1).toNatClampNeg) (xs (nI (5 * n) + 2).toNatClampNeg) (xs (nI (5 * n) + 3).toNatClampNeg) (xs (nI (5 * n) + 4).toNatClampNeg)
      have tail : ∀ σ2 : Sg, V (n + 1) σ2 → Rc (some (L, xs)) (Ev MT CT d) sgW (1342, [(0, .ref 2000), (1, .ref 0), (2, .ref 117), (3, .int (nI (5 * n)))], [], σ2) (fun v _ => v = some (.int 1)) := by
        intro σ2 hV2
        have e5 : nI (5 * n) + 5 = nI (5 * (n + 1)) := by
          rw [show (5 : Int32) = nI 5 by rfl, nI_add]
          rfl
        refine Rc.blk (s2 := (18, [(3, .int (nI (5 * n) + 5)), (0, .ref 2000), (1, .ref 0), (2, .ref 117)], [], σ2)) 283 rfl rfl (trivial) ?_
        rw [e5]
        refine Rc.pick [1, 2, 3, 0] (lv2 := [(0, .ref 2000), (1, .ref 0), (2, .ref 117), (3, .int (nI (5 * (n + 1))))]) rfl ?_
        exact ih (n + 1) σ2 (by omega) (by omega) hV2
      refine Rc.blk (s2 := (swt (xs (nI (5 * n)).toNatClampNeg &&& 63) 1342 0 [208, 231, 254, 297, 330, 363, 386, 419, 442, 475, 498, 542, 555, 578, 601, 644, 667, 691, 715, 758, 791, 804, 858, 891, 914, 947, 970, 983, 1006, 1039, 1062, 1105, 1138, 1181, 1214, 1257, 1280, 1293, 1306, 1319], [(0, .ref 2000), (1, .ref 0), (2, .ref 117), (3, .int (nI (5 * n)))], [], σ)) 2 rfl rfl (conj_c ⟨rfl, g0⟩ trivial) ?_
      generalize xs (nI (5 * n)).toNatClampNeg &&& 63 = w
      by_cases w0 : w = 0
      · refine Rc.sw1 (by rw [w0]; rfl) ?_
        obtain ⟨r, σ1, σ2, a1, a2, a3⟩ := hops.1
        exact law_c0 hd g1 a1 a2 (tail σ2 a3)
      refine Rc.sw2 (fun q => w0 (q.trans rfl)) ?_
      by_cases w1 : w = 1
      · refine Rc.sw1 (by rw [w1]; rfl) ?_
        obtain ⟨r, σ1, σ2, a1, a2, a3⟩ := hops.2.1
        exact law_c1 hd g1 a1 a2 (tail σ2 a3)
      refine Rc.sw2 (fun q => w1 (q.trans rfl)) ?_
      by_cases w2 : w = 2
      · refine Rc.sw1 (by rw [w2]; rfl) ?_
        obtain ⟨r, σ1, σ2, a1, a2, a3⟩ := hops.2.2.1
        exact law_c2 hd g1 g2 g3 a1 a2 (tail σ2 a3)
      refine Rc.sw2 (fun q => w2 (q.trans rfl)) ?_
      by_cases w3 : w = 3
      · refine Rc.sw1 (by rw [w3]; rfl) ?_
        obtain ⟨r, σ1, σ2, a1, a2, a3⟩ := hops.2.2.2.1
        exact law_c3 hd g1 g2 a1 a2 (tail σ2 a3)
      refine Rc.sw2 (fun q => w3 (q.trans rfl)) ?_
      by_cases w4 : w = 4
      · refine Rc.sw1 (by rw [w4]; rfl) ?_
        obtain ⟨r, σ1, σ2, a1, a2, a3⟩ := hops.2.2.2.2.1
        exact law_c4 hd g1 g2 a1 a2 (tail σ2 a3)
      refine Rc.sw2 (fun q => w4 (q.trans rfl)) ?_
      by_cases w5 : w = 5
      · refine Rc.sw1 (by rw [w5]; rfl) ?_
        obtain ⟨r, σ1, σ2, a1, a2, a3⟩ := hops.2.2.2.2.2.1
        exact law_c5 hd g1 a1 a2 (tail σ2 a3)
      refine Rc.sw2 (fun q => w5 (q.trans rfl)) ?_
      by_cases w6 : w = 6
      · refine Rc.sw1 (by rw [w6]; rfl) ?_
        obtain ⟨r, σ1, σ2, a1, a2, a3⟩ := hops.2.2.2.2.2.2.1
        exact law_c6 hd g1 g2 a1 a2 (tail σ2 a3)
      refine Rc.sw2 (fun q => w6 (q.trans rfl)) ?_
      by_cases w7 : w = 7
      · refine Rc.sw1 (by rw [w7]; rfl) ?_
        obtain ⟨r, σ1, σ2, a1, a2, a3⟩ := hops.2.2.2.2.2.2.2.1
        exact law_c7 hd g1 a1 a2 (tail σ2 a3)
      refine Rc.sw2 (fun q => w7 (q.trans rfl)) ?_
      by_cases w8 : w = 8
      · refine Rc.sw1 (by rw [w8]; rfl) ?_
        obtain ⟨r, σ1, σ2, a1, a2, a3⟩ := hops.2.2.2.2.2.2.2.2.1
        exact law_c8 hd g1 g2 a1 a2 (tail σ2 a3)
      refine Rc.sw2 (fun q => w8 (q.trans rfl)) ?_
      by_cases w9 : w = 9
      · refine Rc.sw1 (by rw [w9]; rfl) ?_
        obtain ⟨r, σ1, σ2, a1, a2, a3⟩ := hops.2.2.2.2.2.2.2.2.2.1
        exact law_c9 hd g1 a1 a2 (tail σ2 a3)
      refine Rc.sw2 (fun q => w9 (q.trans rfl)) ?_
      by_cases w10 : w = 10
      · refine Rc.sw1 (by rw [w10]; rfl) ?_
        obtain ⟨r, σ1, σ2, a1, a2, a3⟩ := hops.2.2.2.2.2.2.2.2.2.2.1
        exact law_c10 hd g1 g2 g3 a1 a2 (tail σ2 a3)
      refine Rc.sw2 (fun q => w10 (q.trans rfl)) ?_
      by_cases w11 : w = 11
      · refine Rc.sw1 (by rw [w11]; rfl) ?_
        obtain ⟨r, σ1, σ2, a1, a2, a3⟩ := hops.2.2.2.2.2.2.2.2.2.2.2.1
        exact law_c11 hd a1 a2 (tail σ2 a3)
      refine Rc.sw2 (fun q => w11 (q.trans rfl)) ?_
      by_cases w12 : w = 12
      · refine Rc.sw1 (by rw [w12]; rfl) ?_
        obtain ⟨r, σ1, σ2, a1, a2, a3⟩ := hops.2.2.2.2.2.2.2.2.2.2.2.2.1
        exact law_c12 hd g1 a1 a2 (tail σ2 a3)
      refine Rc.sw2 (fun q => w12 (q.trans rfl)) ?_
      by_cases w13 : w = 13
      · refine Rc.sw1 (by rw [w13]; rfl) ?_
        obtain ⟨r, σ1, σ2, a1, a2, a3⟩ := hops.2.2.2.2.2.2.2.2.2.2.2.2.2.1
        exact law_c13 hd g1 a1 a2 (tail σ2 a3)
      refine Rc.sw2 (fun q => w13 (q.trans rfl)) ?_
      by_cases w14 : w = 14
      · refine Rc.sw1 (by rw [w14]; rfl) ?_
        obtain ⟨r, σ1, σ2, a1, a2, a3⟩ := hops.2.2.2.2.2.2.2.2.2.2.2.2.2.2.1
        exact law_c14 hd g1 g2 g3 a1 a2 (tail σ2 a3)
      refine Rc.sw2 (fun q => w14 (q.trans rfl)) ?_
      by_cases w15 : w = 15
      · refine Rc.sw1 (by rw [w15]; rfl) ?_
        obtain ⟨r, σ1, σ2, a1, a2, a3⟩ := hops.2.2.2.2.2.2.2.2.2.2.2.2.2.2.2.1
        exact law_c15 hd g1 a1 a2 (tail σ2 a3)
      refine Rc.sw2 (fun q => w15 (q.trans rfl)) ?_
      by_cases w16 : w = 16
      · refine Rc.sw1 (by rw [w16]; rfl) ?_
        obtain ⟨r, σ1, σ2, a1, a2, a3⟩ := hops.2.2.2.2.2.2.2.2.2.2.2.2.2.2.2.2.1
        exact law_c16 hd g1 a1 a2 (tail σ2 a3)
      refine Rc.sw2 (fun q => w16 (q.trans rfl)) ?_
      by_cases w17 : w = 17
      · refine Rc.sw1 (by rw [w17]; rfl) ?_
        obtain ⟨r, σ1, σ2, a1, a2, a3⟩ := hops.2.2.2.2.2.2.2.2.2.2.2.2.2.2.2.2.2.1
        exact law_c17 hd g1 a1 a2 (tail σ2 a3)
      refine Rc.sw2 (fun q => w17 (q.trans rfl)) ?_
      by_cases w18 : w = 18
      · refine Rc.sw1 (by rw [w18]; rfl) ?_
        obtain ⟨r, σ1, σ2, a1, a2, a3⟩ := hops.2.2.2.2.2.2.2.2.2.2.2.2.2.2.2.2.2.2.1
        exact law_c18 hd g1 g2 g3 a1 a2 (tail σ2 a3)
      refine Rc.sw2 (fun q => w18 (q.trans rfl)) ?_
      by_cases w19 : w = 19
      · refine Rc.sw1 (by rw [w19]; rfl) ?_
        obtain ⟨r, σ1, σ2, a1, a2, a3⟩ := hops.2.2.2.2.2.2.2.2.2.2.2.2.2.2.2.2.2.2.2.1
        exact law_c19 hd g1 g2 a1 a2 (tail σ2 a3)
      refine Rc.sw2 (fun q => w19 (q.trans rfl)) ?_
      by_cases w20 : w = 20
      · refine Rc.sw1 (by rw [w20]; rfl) ?_
        obtain ⟨r, σ1, σ2, a1, a2, a3⟩ := hops.2.2.2.2.2.2.2.2.2.2.2.2.2.2.2.2.2.2.2.2.1
        exact law_c20 hd a1 a2 (tail σ2 a3)
      refine Rc.sw2 (fun q => w20 (q.trans rfl)) ?_
      by_cases w21 : w = 21
      · refine Rc.sw1 (by rw [w21]; rfl) ?_
        obtain ⟨r, σ1, σ2, a1, a2, a3⟩ := hops.2.2.2.2.2.2.2.2.2.2.2.2.2.2.2.2.2.2.2.2.2.1
        exact law_c21 hd g1 g2 g3 g4 a1 a2 (tail σ2 a3)
      refine Rc.sw2 (fun q => w21 (q.trans rfl)) ?_
      by_cases w22 : w = 22
      · refine Rc.sw1 (by rw [w22]; rfl) ?_
        obtain ⟨r, σ1, σ2, a1, a2, a3⟩ := hops.2.2.2.2.2.2.2.2.2.2.2.2.2.2.2.2.2.2.2.2.2.2.1
        exact law_c22 hd g1 g2 a1 a2 (tail σ2 a3)
      refine Rc.sw2 (fun q => w22 (q.trans rfl)) ?_
      by_cases w23 : w = 23
      · refine Rc.sw1 (by rw [w23]; rfl) ?_
        obtain ⟨r, σ1, σ2, a1, a2, a3⟩ := hops.2.2.2.2.2.2.2.2.2.2.2.2.2.2.2.2.2.2.2.2.2.2.2.1
        exact law_c23 hd g1 a1 a2 (tail σ2 a3)
      refine Rc.sw2 (fun q => w23 (q.trans rfl)) ?_
      by_cases w24 : w = 24
      · refine Rc.sw1 (by rw [w24]; rfl) ?_
        obtain ⟨r, σ1, σ2, a1, a2, a3⟩ := hops.2.2.2.2.2.2.2.2.2.2.2.2.2.2.2.2.2.2.2.2.2.2.2.2.1
        exact law_c24 hd g1 g2 a1 a2 (tail σ2 a3)
      refine Rc.sw2 (fun q => w24 (q.trans rfl)) ?_
      by_cases w25 : w = 25
      · refine Rc.sw1 (by rw [w25]; rfl) ?_
        obtain ⟨r, σ1, σ2, a1, a2, a3⟩ := hops.2.2.2.2.2.2.2.2.2.2.2.2.2.2.2.2.2.2.2.2.2.2.2.2.2.1
        exact law_c25 hd g1 a1 a2 (tail σ2 a3)
      refine Rc.sw2 (fun q => w25 (q.trans rfl)) ?_
      by_cases w26 : w = 26
      · refine Rc.sw1 (by rw [w26]; rfl) ?_
        obtain ⟨r, σ1, σ2, a1, a2, a3⟩ := hops.2.2.2.2.2.2.2.2.2.2.2.2.2.2.2.2.2.2.2.2.2.2.2.2.2.2.1
        exact law_c26 hd a1 a2 (tail σ2 a3)
      refine Rc.sw2 (fun q => w26 (q.trans rfl)) ?_
      by_cases w27 : w = 27
      · refine Rc.sw1 (by rw [w27]; rfl) ?_
        obtain ⟨r, σ1, σ2, a1, a2, a3⟩ := hops.2.2.2.2.2.2.2.2.2.2.2.2.2.2.2.2.2.2.2.2.2.2.2.2.2.2.2.1
        exact law_c27 hd g1 a1 a2 (tail σ2 a3)
      refine Rc.sw2 (fun q => w27 (q.trans rfl)) ?_
      by_cases w28 : w = 28
      · refine Rc.sw1 (by rw [w28]; rfl) ?_
        obtain ⟨r, σ1, σ2, a1, a2, a3⟩ := hops.2.2.2.2.2.2.2.2.2.2.2.2.2.2.2.2.2.2.2.2.2.2.2.2.2.2.2.2.1
        exact law_c28 hd g1 g2 a1 a2 (tail σ2 a3)
      refine Rc.sw2 (fun q => w28 (q.trans rfl)) ?_
      by_cases w29 : w = 29
      · refine Rc.sw1 (by rw [w29]; rfl) ?_
        obtain ⟨r, σ1, σ2, a1, a2, a3⟩ := hops.2.2.2.2.2.2.2.2.2.2.2.2.2.2.2.2.2.2.2.2.2.2.2.2.2.2.2.2.2.1
        exact law_c29 hd g1 a1 a2 (tail σ2 a3)
      refine Rc.sw2 (fun q => w29 (q.trans rfl)) ?_
      by_cases w30 : w = 30
      · refine Rc.sw1 (by rw [w30]; rfl) ?_
        obtain ⟨r, σ1, σ2, a1, a2, a3⟩ := hops.2.2.2.2.2.2.2.2.2.2.2.2.2.2.2.2.2.2.2.2.2.2.2.2.2.2.2.2.2.2.1
        exact law_c30 hd g1 g2 g3 a1 a2 (tail σ2 a3)
      refine Rc.sw2 (fun q => w30 (q.trans rfl)) ?_
      by_cases w31 : w = 31
      · refine Rc.sw1 (by rw [w31]; rfl) ?_
        obtain ⟨r, σ1, σ2, a1, a2, a3⟩ := hops.2.2.2.2.2.2.2.2.2.2.2.2.2.2.2.2.2.2.2.2.2.2.2.2.2.2.2.2.2.2.2.1
        exact law_c31 hd g1 g2 a1 a2 (tail σ2 a3)
      refine Rc.sw2 (fun q => w31 (q.trans rfl)) ?_
      by_cases w32 : w = 32
      · refine Rc.sw1 (by rw [w32]; rfl) ?_
        obtain ⟨r, σ1, σ2, a1, a2, a3⟩ := hops.2.2.2.2.2.2.2.2.2.2.2.2.2.2.2.2.2.2.2.2.2.2.2.2.2.2.2.2.2.2.2.2.1
        exact law_c32 hd g1 g2 g3 a1 a2 (tail σ2 a3)
      refine Rc.sw2 (fun q => w32 (q.trans rfl)) ?_
      by_cases w33 : w = 33
      · refine Rc.sw1 (by rw [w33]; rfl) ?_
        obtain ⟨r, σ1, σ2, a1, a2, a3⟩ := hops.2.2.2.2.2.2.2.2.2.2.2.2.2.2.2.2.2.2.2.2.2.2.2.2.2.2.2.2.2.2.2.2.2.1
        exact law_c33 hd g1 g2 a1 a2 (tail σ2 a3)
      refine Rc.sw2 (fun q => w33 (q.trans rfl)) ?_
      by_cases w34 : w = 34
      · refine Rc.sw1 (by rw [w34]; rfl) ?_
        obtain ⟨r, σ1, σ2, a1, a2, a3⟩ := hops.2.2.2.2.2.2.2.2.2.2.2.2.2.2.2.2.2.2.2.2.2.2.2.2.2.2.2.2.2.2.2.2.2.2.1
        exact law_c34 hd g1 g2 g3 a1 a2 (tail σ2 a3)
      refine Rc.sw2 (fun q => w34 (q.trans rfl)) ?_
      by_cases w35 : w = 35
      · refine Rc.sw1 (by rw [w35]; rfl) ?_
        obtain ⟨r, σ1, σ2, a1, a2, a3⟩ := hops.2.2.2.2.2.2.2.2.2.2.2.2.2.2.2.2.2.2.2.2.2.2.2.2.2.2.2.2.2.2.2.2.2.2.2.1
        exact law_c35 hd g1 a1 a2 (tail σ2 a3)
      refine Rc.sw2 (fun q => w35 (q.trans rfl)) ?_
      by_cases w36 : w = 36
      · refine Rc.sw1 (by rw [w36]; rfl) ?_
        obtain ⟨r, σ1, σ2, a1, a2, a3⟩ := hops.2.2.2.2.2.2.2.2.2.2.2.2.2.2.2.2.2.2.2.2.2.2.2.2.2.2.2.2.2.2.2.2.2.2.2.2.1
        exact law_c36 hd a1 a2 (tail σ2 a3)
      refine Rc.sw2 (fun q => w36 (q.trans rfl)) ?_
      by_cases w37 : w = 37
      · refine Rc.sw1 (by rw [w37]; rfl) ?_
        obtain ⟨r, σ1, σ2, a1, a2, a3⟩ := hops.2.2.2.2.2.2.2.2.2.2.2.2.2.2.2.2.2.2.2.2.2.2.2.2.2.2.2.2.2.2.2.2.2.2.2.2.2.1
        exact law_c37 hd a1 a2 (tail σ2 a3)
      refine Rc.sw2 (fun q => w37 (q.trans rfl)) ?_
      by_cases w38 : w = 38
      · refine Rc.sw1 (by rw [w38]; rfl) ?_
        obtain ⟨r, σ1, σ2, a1, a2, a3⟩ := hops.2.2.2.2.2.2.2.2.2.2.2.2.2.2.2.2.2.2.2.2.2.2.2.2.2.2.2.2.2.2.2.2.2.2.2.2.2.2.1
        exact law_c38 hd a1 a2 (tail σ2 a3)
      refine Rc.sw2 (fun q => w38 (q.trans rfl)) ?_
      by_cases w39 : w = 39
      · refine Rc.sw1 (by rw [w39]; rfl) ?_
        obtain ⟨r, σ1, σ2, a1, a2, a3⟩ := hops.2.2.2.2.2.2.2.2.2.2.2.2.2.2.2.2.2.2.2.2.2.2.2.2.2.2.2.2.2.2.2.2.2.2.2.2.2.2.2
        exact law_c39 hd g1 a1 a2 (tail σ2 a3)
      refine Rc.sw2 (fun q => w39 (q.trans rfl)) ?_
      exact Rc.sw0 (tail σ hV1)
