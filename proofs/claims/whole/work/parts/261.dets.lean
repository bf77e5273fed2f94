/-- a 5 by 5 determinant, by its columns -/
def DT (N : Nat → Nat → Int) : Int := d5 (N 0 0) (N 1 0) (N 2 0) (N 3 0) (N 4 0) (N 0 1) (N 1 1) (N 2 1) (N 3 1) (N 4 1) (N 0 2) (N 1 2) (N 2 2) (N 3 2) (N 4 2) (N 0 3) (N 1 3) (N 2 3) (N 3 3) (N 4 3) (N 0 4) (N 1 4) (N 2 4) (N 3 4) (N 4 4)
/-- a column put in -/
def rpl (N : Nat → Nat → Int) (k : Nat) (v : Nat → Int) : Nat → Nat → Int := fun r c => if c = k then v r else N r c
/-- two columns changed -/
def swc (N : Nat → Nat → Int) (a b : Nat) : Nat → Nat → Int := fun r c => N r (if c = a then b else if c = b then a else c)
theorem DT_r0 (N : Nat → Nat → Int) (v : Nat → Int) : DT (rpl N 0 v) = d5 (v 0) (v 1) (v 2) (v 3) (v 4) (N 0 1) (N 1 1) (N 2 1) (N 3 1) (N 4 1) (N 0 2) (N 1 2) (N 2 2) (N 3 2) (N 4 2) (N 0 3) (N 1 3) (N 2 3) (N 3 3) (N 4 3) (N 0 4) (N 1 4) (N 2 4) (N 3 4) (N 4 4) := rfl
theorem DT_r1 (N : Nat → Nat → Int) (v : Nat → Int) : DT (rpl N 1 v) = d5 (N 0 0) (N 1 0) (N 2 0) (N 3 0) (N 4 0) (v 0) (v 1) (v 2) (v 3) (v 4) (N 0 2) (N 1 2) (N 2 2) (N 3 2) (N 4 2) (N 0 3) (N 1 3) (N 2 3) (N 3 3) (N 4 3) (N 0 4) (N 1 4) (N 2 4) (N 3 4) (N 4 4) := rfl
theorem DT_r2 (N : Nat → Nat → Int) (v : Nat → Int) : DT (rpl N 2 v) = d5 (N 0 0) (N 1 0) (N 2 0) (N 3 0) (N 4 0) (N 0 1) (N 1 1) (N 2 1) (N 3 1) (N 4 1) (v 0) (v 1) (v 2) (v 3) (v 4) (N 0 3) (N 1 3) (N 2 3) (N 3 3) (N 4 3) (N 0 4) (N 1 4) (N 2 4) (N 3 4) (N 4 4) := rfl
theorem DT_r3 (N : Nat → Nat → Int) (v : Nat → Int) : DT (rpl N 3 v) = d5 (N 0 0) (N 1 0) (N 2 0) (N 3 0) (N 4 0) (N 0 1) (N 1 1) (N 2 1) (N 3 1) (N 4 1) (N 0 2) (N 1 2) (N 2 2) (N 3 2) (N 4 2) (v 0) (v 1) (v 2) (v 3) (v 4) (N 0 4) (N 1 4) (N 2 4) (N 3 4) (N 4 4) := rfl
theorem DT_r4 (N : Nat → Nat → Int) (v : Nat → Int) : DT (rpl N 4 v) = d5 (N 0 0) (N 1 0) (N 2 0) (N 3 0) (N 4 0) (N 0 1) (N 1 1) (N 2 1) (N 3 1) (N 4 1) (N 0 2) (N 1 2) (N 2 2) (N 3 2) (N 4 2) (N 0 3) (N 1 3) (N 2 3) (N 3 3) (N 4 3) (v 0) (v 1) (v 2) (v 3) (v 4) := rfl
set_option maxHeartbeats 4000000 in
theorem DT_l0 (N : Nat → Nat → Int) (a b : Int) (u v : Nat → Int) : DT (rpl N 0 (fun r => a * u r + b * v r)) = a * DT (rpl N 0 u) + b * DT (rpl N 0 v) := by
  rw [DT_r0, DT_r0, DT_r0]; unfold d5 d4 d3 d2; grind
set_option maxHeartbeats 4000000 in
theorem DT_l1 (N : Nat → Nat → Int) (a b : Int) (u v : Nat → Int) : DT (rpl N 1 (fun r => a * u r + b * v r)) = a * DT (rpl N 1 u) + b * DT (rpl N 1 v) := by
  rw [DT_r1, DT_r1, DT_r1]; unfold d5 d4 d3 d2; grind
set_option maxHeartbeats 4000000 in
theorem DT_l2 (N : Nat → Nat → Int) (a b : Int) (u v : Nat → Int) : DT (rpl N 2 (fun r => a * u r + b * v r)) = a * DT (rpl N 2 u) + b * DT (rpl N 2 v) := by
  rw [DT_r2, DT_r2, DT_r2]; unfold d5 d4 d3 d2; grind
set_option maxHeartbeats 4000000 in
theorem DT_l3 (N : Nat → Nat → Int) (a b : Int) (u v : Nat → Int) : DT (rpl N 3 (fun r => a * u r + b * v r)) = a * DT (rpl N 3 u) + b * DT (rpl N 3 v) := by
  rw [DT_r3, DT_r3, DT_r3]; unfold d5 d4 d3 d2; grind
set_option maxHeartbeats 4000000 in
theorem DT_l4 (N : Nat → Nat → Int) (a b : Int) (u v : Nat → Int) : DT (rpl N 4 (fun r => a * u r + b * v r)) = a * DT (rpl N 4 u) + b * DT (rpl N 4 v) := by
  rw [DT_r4, DT_r4, DT_r4]; unfold d5 d4 d3 d2; grind
set_option maxHeartbeats 4000000 in
theorem DT_c0 (N : Nat → Nat → Int) (v : Nat → Int) : N 0 0 * DT (rpl N 0 v) + N 0 1 * DT (rpl N 1 v) + N 0 2 * DT (rpl N 2 v) + N 0 3 * DT (rpl N 3 v) + N 0 4 * DT (rpl N 4 v) = v 0 * DT N := by
  rw [DT_r0, DT_r1, DT_r2, DT_r3, DT_r4]; unfold DT d5 d4 d3 d2; grind
set_option maxHeartbeats 4000000 in
theorem DT_c1 (N : Nat → Nat → Int) (v : Nat → Int) : N 1 0 * DT (rpl N 0 v) + N 1 1 * DT (rpl N 1 v) + N 1 2 * DT (rpl N 2 v) + N 1 3 * DT (rpl N 3 v) + N 1 4 * DT (rpl N 4 v) = v 1 * DT N := by
  rw [DT_r0, DT_r1, DT_r2, DT_r3, DT_r4]; unfold DT d5 d4 d3 d2; grind
set_option maxHeartbeats 4000000 in
theorem DT_c2 (N : Nat → Nat → Int) (v : Nat → Int) : N 2 0 * DT (rpl N 0 v) + N 2 1 * DT (rpl N 1 v) + N 2 2 * DT (rpl N 2 v) + N 2 3 * DT (rpl N 3 v) + N 2 4 * DT (rpl N 4 v) = v 2 * DT N := by
  rw [DT_r0, DT_r1, DT_r2, DT_r3, DT_r4]; unfold DT d5 d4 d3 d2; grind
set_option maxHeartbeats 4000000 in
theorem DT_c3 (N : Nat → Nat → Int) (v : Nat → Int) : N 3 0 * DT (rpl N 0 v) + N 3 1 * DT (rpl N 1 v) + N 3 2 * DT (rpl N 2 v) + N 3 3 * DT (rpl N 3 v) + N 3 4 * DT (rpl N 4 v) = v 3 * DT N := by
  rw [DT_r0, DT_r1, DT_r2, DT_r3, DT_r4]; unfold DT d5 d4 d3 d2; grind
set_option maxHeartbeats 4000000 in
theorem DT_c4 (N : Nat → Nat → Int) (v : Nat → Int) : N 4 0 * DT (rpl N 0 v) + N 4 1 * DT (rpl N 1 v) + N 4 2 * DT (rpl N 2 v) + N 4 3 * DT (rpl N 3 v) + N 4 4 * DT (rpl N 4 v) = v 4 * DT N := by
  rw [DT_r0, DT_r1, DT_r2, DT_r3, DT_r4]; unfold DT d5 d4 d3 d2; grind
theorem DT_e01 (N : Nat → Nat → Int) : DT (swc N 0 1) = d5 (N 0 1) (N 1 1) (N 2 1) (N 3 1) (N 4 1) (N 0 0) (N 1 0) (N 2 0) (N 3 0) (N 4 0) (N 0 2) (N 1 2) (N 2 2) (N 3 2) (N 4 2) (N 0 3) (N 1 3) (N 2 3) (N 3 3) (N 4 3) (N 0 4) (N 1 4) (N 2 4) (N 3 4) (N 4 4) := rfl
set_option maxHeartbeats 4000000 in
theorem DT_s01 (N : Nat → Nat → Int) : DT (swc N 0 1) = - DT N := by
  rw [DT_e01]; unfold DT d5 d4 d3 d2; grind
theorem DT_e02 (N : Nat → Nat → Int) : DT (swc N 0 2) = d5 (N 0 2) (N 1 2) (N 2 2) (N 3 2) (N 4 2) (N 0 1) (N 1 1) (N 2 1) (N 3 1) (N 4 1) (N 0 0) (N 1 0) (N 2 0) (N 3 0) (N 4 0) (N 0 3) (N 1 3) (N 2 3) (N 3 3) (N 4 3) (N 0 4) (N 1 4) (N 2 4) (N 3 4) (N 4 4) := rfl
set_option maxHeartbeats 4000000 in
theorem DT_s02 (N : Nat → Nat → Int) : DT (swc N 0 2) = - DT N := by
  rw [DT_e02]; unfold DT d5 d4 d3 d2; grind
theorem DT_e03 (N : Nat → Nat → Int) : DT (swc N 0 3) = d5 (N 0 3) (N 1 3) (N 2 3) (N 3 3) (N 4 3) (N 0 1) (N 1 1) (N 2 1) (N 3 1) (N 4 1) (N 0 2) (N 1 2) (N 2 2) (N 3 2) (N 4 2) (N 0 0) (N 1 0) (N 2 0) (N 3 0) (N 4 0) (N 0 4) (N 1 4) (N 2 4) (N 3 4) (N 4 4) := rfl
set_option maxHeartbeats 4000000 in
theorem DT_s03 (N : Nat → Nat → Int) : DT (swc N 0 3) = - DT N := by
  rw [DT_e03]; unfold DT d5 d4 d3 d2; grind
theorem DT_e04 (N : Nat → Nat → Int) : DT (swc N 0 4) = d5 (N 0 4) (N 1 4) (N 2 4) (N 3 4) (N 4 4) (N 0 1) (N 1 1) (N 2 1) (N 3 1) (N 4 1) (N 0 2) (N 1 2) (N 2 2) (N 3 2) (N 4 2) (N 0 3) (N 1 3) (N 2 3) (N 3 3) (N 4 3) (N 0 0) (N 1 0) (N 2 0) (N 3 0) (N 4 0) := rfl
set_option maxHeartbeats 4000000 in
theorem DT_s04 (N : Nat → Nat → Int) : DT (swc N 0 4) = - DT N := by
  rw [DT_e04]; unfold DT d5 d4 d3 d2; grind
theorem DT_e12 (N : Nat → Nat → Int) : DT (swc N 1 2) = d5 (N 0 0) (N 1 0) (N 2 0) (N 3 0) (N 4 0) (N 0 2) (N 1 2) (N 2 2) (N 3 2) (N 4 2) (N 0 1) (N 1 1) (N 2 1) (N 3 1) (N 4 1) (N 0 3) (N 1 3) (N 2 3) (N 3 3) (N 4 3) (N 0 4) (N 1 4) (N 2 4) (N 3 4) (N 4 4) := rfl
set_option maxHeartbeats 4000000 in
theorem DT_s12 (N : Nat → Nat → Int) : DT (swc N 1 2) = - DT N := by
  rw [DT_e12]; unfold DT d5 d4 d3 d2; grind
theorem DT_e13 (N : Nat → Nat → Int) : DT (swc N 1 3) = d5 (N 0 0) (N 1 0) (N 2 0) (N 3 0) (N 4 0) (N 0 3) (N 1 3) (N 2 3) (N 3 3) (N 4 3) (N 0 2) (N 1 2) (N 2 2) (N 3 2) (N 4 2) (N 0 1) (N 1 1) (N 2 1) (N 3 1) (N 4 1) (N 0 4) (N 1 4) (N 2 4) (N 3 4) (N 4 4) := rfl
set_option maxHeartbeats 4000000 in
theorem DT_s13 (N : Nat → Nat → Int) : DT (swc N 1 3) = - DT N := by
  rw [DT_e13]; unfold DT d5 d4 d3 d2; grind
theorem DT_e14 (N : Nat → Nat → Int) : DT (swc N 1 4) = d5 (N 0 0) (N 1 0) (N 2 0) (N 3 0) (N 4 0) (N 0 4) (N 1 4) (N 2 4) (N 3 4) (N 4 4) (N 0 2) (N 1 2) (N 2 2) (N 3 2) (N 4 2) (N 0 3) (N 1 3) (N 2 3) (N 3 3) (N 4 3) (N 0 1) (N 1 1) (N 2 1) (N 3 1) (N 4 1) := rfl
set_option maxHeartbeats 4000000 in
theorem DT_s14 (N : Nat → Nat → Int) : DT (swc N 1 4) = - DT N := by
  rw [DT_e14]; unfold DT d5 d4 d3 d2; grind
theorem DT_e23 (N : Nat → Nat → Int) : DT (swc N 2 3) = d5 (N 0 0) (N 1 0) (N 2 0) (N 3 0) (N 4 0) (N 0 1) (N 1 1) (N 2 1) (N 3 1) (N 4 1) (N 0 3) (N 1 3) (N 2 3) (N 3 3) (N 4 3) (N 0 2) (N 1 2) (N 2 2) (N 3 2) (N 4 2) (N 0 4) (N 1 4) (N 2 4) (N 3 4) (N 4 4) := rfl
set_option maxHeartbeats 4000000 in
theorem DT_s23 (N : Nat → Nat → Int) : DT (swc N 2 3) = - DT N := by
  rw [DT_e23]; unfold DT d5 d4 d3 d2; grind
theorem DT_e24 (N : Nat → Nat → Int) : DT (swc N 2 4) = d5 (N 0 0) (N 1 0) (N 2 0) (N 3 0) (N 4 0) (N 0 1) (N 1 1) (N 2 1) (N 3 1) (N 4 1) (N 0 4) (N 1 4) (N 2 4) (N 3 4) (N 4 4) (N 0 3) (N 1 3) (N 2 3) (N 3 3) (N 4 3) (N 0 2) (N 1 2) (N 2 2) (N 3 2) (N 4 2) := rfl
set_option maxHeartbeats 4000000 in
theorem DT_s24 (N : Nat → Nat → Int) : DT (swc N 2 4) = - DT N := by
  rw [DT_e24]; unfold DT d5 d4 d3 d2; grind
theorem DT_e34 (N : Nat → Nat → Int) : DT (swc N 3 4) = d5 (N 0 0) (N 1 0) (N 2 0) (N 3 0) (N 4 0) (N 0 1) (N 1 1) (N 2 1) (N 3 1) (N 4 1) (N 0 2) (N 1 2) (N 2 2) (N 3 2) (N 4 2) (N 0 4) (N 1 4) (N 2 4) (N 3 4) (N 4 4) (N 0 3) (N 1 3) (N 2 3) (N 3 3) (N 4 3) := rfl
set_option maxHeartbeats 4000000 in
theorem DT_s34 (N : Nat → Nat → Int) : DT (swc N 3 4) = - DT N := by
  rw [DT_e34]; unfold DT d5 d4 d3 d2; grind
