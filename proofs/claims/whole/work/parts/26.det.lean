/-! ===== PURE: five rows, five columns ===== -/
def d2 (a b c d : Int) : Int := a * d - b * c
/-- rows a, b, c of three columns -/
def d3 (a0 a1 a2 b0 b1 b2 c0 c1 c2 : Int) : Int := a0 * d2 b1 b2 c1 c2 - a1 * d2 b0 b2 c0 c2 + a2 * d2 b0 b1 c0 c1
def d4 (a0 a1 a2 a3 b0 b1 b2 b3 c0 c1 c2 c3 e0 e1 e2 e3 : Int) : Int := a0 * d3 b1 b2 b3 c1 c2 c3 e1 e2 e3 - a1 * d3 b0 b2 b3 c0 c2 c3 e0 e2 e3 + a2 * d3 b0 b1 b3 c0 c1 c3 e0 e1 e3 - a3 * d3 b0 b1 b2 c0 c1 c2 e0 e1 e2
theorem d4_tr (a0 a1 a2 a3 b0 b1 b2 b3 c0 c1 c2 c3 e0 e1 e2 e3 : Int) : d4 a0 a1 a2 a3 b0 b1 b2 b3 c0 c1 c2 c3 e0 e1 e2 e3 = d4 a0 b0 c0 e0 a1 b1 c1 e1 a2 b2 c2 e2 a3 b3 c3 e3 := by
  unfold d4 d3 d2; grind
/-- five numbers a, against the minors of four columns x y z w -/
def d5 (a0 a1 a2 a3 a4 x0 x1 x2 x3 x4 y0 y1 y2 y3 y4 z0 z1 z2 z3 z4 w0 w1 w2 w3 w4 : Int) : Int := a0 * d4 x1 y1 z1 w1 x2 y2 z2 w2 x3 y3 z3 w3 x4 y4 z4 w4 - a1 * d4 x0 y0 z0 w0 x2 y2 z2 w2 x3 y3 z3 w3 x4 y4 z4 w4 + a2 * d4 x0 y0 z0 w0 x1 y1 z1 w1 x3 y3 z3 w3 x4 y4 z4 w4 - a3 * d4 x0 y0 z0 w0 x1 y1 z1 w1 x2 y2 z2 w2 x4 y4 z4 w4 + a4 * d4 x0 y0 z0 w0 x1 y1 z1 w1 x2 y2 z2 w2 x3 y3 z3 w3
set_option maxHeartbeats 4000000 in
theorem d5_x (x0 x1 x2 x3 x4 y0 y1 y2 y3 y4 z0 z1 z2 z3 z4 w0 w1 w2 w3 w4 : Int) : d5 x0 x1 x2 x3 x4 x0 x1 x2 x3 x4 y0 y1 y2 y3 y4 z0 z1 z2 z3 z4 w0 w1 w2 w3 w4 = 0 := by
  unfold d5 d4 d3 d2; grind
set_option maxHeartbeats 4000000 in
theorem d5_sw (a0 a1 a2 a3 a4 x0 x1 x2 x3 x4 y0 y1 y2 y3 y4 z0 z1 z2 z3 z4 w0 w1 w2 w3 w4 : Int) : d5 a0 a1 a2 a3 a4 x0 x1 x2 x3 x4 y0 y1 y2 y3 y4 z0 z1 z2 z3 z4 w0 w1 w2 w3 w4 = - d5 x0 x1 x2 x3 x4 a0 a1 a2 a3 a4 y0 y1 y2 y3 y4 z0 z1 z2 z3 z4 w0 w1 w2 w3 w4 := by
  unfold d5 d4 d3 d2; grind
