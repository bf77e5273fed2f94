/-! ===== PURE: the elimination over the integers is exact ===== -/
theorem ab_mul {a x : Int} {K : Nat} (ha : a.natAbs ≤ 20) (hx : x.natAbs ≤ K) : (a * x).natAbs ≤ 20 * K := by
  rw [Int.natAbs_mul]; exact Nat.mul_le_mul ha hx
theorem d2_le {a b c d : Int} (ha : a.natAbs ≤ 20) (hb : b.natAbs ≤ 20) (hc : c.natAbs ≤ 20) (hd : d.natAbs ≤ 20) : (d2 a b c d).natAbs ≤ 800 := by
  have h1 := ab_mul ha hd
  have h2 := ab_mul hb hc
  unfold d2; omega
theorem d3_le {a0 a1 a2 b0 b1 b2 c0 c1 c2 : Int} (h0 : a0.natAbs ≤ 20) (h1 : a1.natAbs ≤ 20) (h2 : a2.natAbs ≤ 20) (g0 : b0.natAbs ≤ 20) (g1 : b1.natAbs ≤ 20) (g2 : b2.natAbs ≤ 20) (k0 : c0.natAbs ≤ 20) (k1 : c1.natAbs ≤ 20) (k2 : c2.natAbs ≤ 20) : (d3 a0 a1 a2 b0 b1 b2 c0 c1 c2).natAbs ≤ 48000 := by
  have e1 := ab_mul h0 (d2_le g1 g2 k1 k2)
  have e2 := ab_mul h1 (d2_le g0 g2 k0 k2)
  have e3 := ab_mul h2 (d2_le g0 g1 k0 k1)
  unfold d3; omega
theorem d4_le {a0 a1 a2 a3 b0 b1 b2 b3 c0 c1 c2 c3 e0 e1 e2 e3 : Int} (h0 : a0.natAbs ≤ 20) (h1 : a1.natAbs ≤ 20) (h2 : a2.natAbs ≤ 20) (h3 : a3.natAbs ≤ 20) (g0 : b0.natAbs ≤ 20) (g1 : b1.natAbs ≤ 20) (g2 : b2.natAbs ≤ 20) (g3 : b3.natAbs ≤ 20) (k0 : c0.natAbs ≤ 20) (k1 : c1.natAbs ≤ 20) (k2 : c2.natAbs ≤ 20) (k3 : c3.natAbs ≤ 20) (l0 : e0.natAbs ≤ 20) (l1 : e1.natAbs ≤ 20) (l2 : e2.natAbs ≤ 20) (l3 : e3.natAbs ≤ 20) : (d4 a0 a1 a2 a3 b0 b1 b2 b3 c0 c1 c2 c3 e0 e1 e2 e3).natAbs ≤ 3840000 := by
  have e1 := ab_mul h0 (d3_le g1 g2 g3 k1 k2 k3 l1 l2 l3)
  have e2 := ab_mul h1 (d3_le g0 g2 g3 k0 k2 k3 l0 l2 l3)
  have e3 := ab_mul h2 (d3_le g0 g1 g3 k0 k1 k3 l0 l1 l3)
  have e4 := ab_mul h3 (d3_le g0 g1 g2 k0 k1 k2 l0 l1 l2)
  unfold d4; omega
theorem DT_le {N : Nat → Nat → Int} (h : ∀ r c, r < 5 → c < 5 → (N r c).natAbs ≤ 20) : (DT N).natAbs ≤ 384000000 := by
  have h' : ∀ r c, r < 5 → c < 5 → (N r c).natAbs ≤ 20 := h
  have e0 := ab_mul (h 0 0 (by omega) (by omega)) (d4_le (h 1 1 (by omega) (by omega)) (h 1 2 (by omega) (by omega)) (h 1 3 (by omega) (by omega)) (h 1 4 (by omega) (by omega)) (h 2 1 (by omega) (by omega)) (h 2 2 (by omega) (by omega)) (h 2 3 (by omega) (by omega)) (h 2 4 (by omega) (by omega)) (h 3 1 (by omega) (by omega)) (h 3 2 (by omega) (by omega)) (h 3 3 (by omega) (by omega)) (h 3 4 (by omega) (by omega)) (h 4 1 (by omega) (by omega)) (h 4 2 (by omega) (by omega)) (h 4 3 (by omega) (by omega)) (h 4 4 (by omega) (by omega)))
  have e1 := ab_mul (h 1 0 (by omega) (by omega)) (d4_le (h 0 1 (by omega) (by omega)) (h 0 2 (by omega) (by omega)) (h 0 3 (by omega) (by omega)) (h 0 4 (by omega) (by omega)) (h 2 1 (by omega) (by omega)) (h 2 2 (by omega) (by omega)) (h 2 3 (by omega) (by omega)) (h 2 4 (by omega) (by omega)) (h 3 1 (by omega) (by omega)) (h 3 2 (by omega) (by omega)) (h 3 3 (by omega) (by omega)) (h 3 4 (by omega) (by omega)) (h 4 1 (by omega) (by omega)) (h 4 2 (by omega) (by omega)) (h 4 3 (by omega) (by omega)) (h 4 4 (by omega) (by omega)))
  have e2 := ab_mul (h 2 0 (by omega) (by omega)) (d4_le (h 0 1 (by omega) (by omega)) (h 0 2 (by omega) (by omega)) (h 0 3 (by omega) (by omega)) (h 0 4 (by omega) (by omega)) (h 1 1 (by omega) (by omega)) (h 1 2 (by omega) (by omega)) (h 1 3 (by omega) (by omega)) (h 1 4 (by omega) (by omega)) (h 3 1 (by omega) (by omega)) (h 3 2 (by omega) (by omega)) (h 3 3 (by omega) (by omega)) (h 3 4 (by omega) (by omega)) (h 4 1 (by omega) (by omega)) (h 4 2 (by omega) (by omega)) (h 4 3 (by omega) (by omega)) (h 4 4 (by omega) (by omega)))
  have e3 := ab_mul (h 3 0 (by omega) (by omega)) (d4_le (h 0 1 (by omega) (by omega)) (h 0 2 (by omega) (by omega)) (h 0 3 (by omega) (by omega)) (h 0 4 (by omega) (by omega)) (h 1 1 (by omega) (by omega)) (h 1 2 (by omega) (by omega)) (h 1 3 (by omega) (by omega)) (h 1 4 (by omega) (by omega)) (h 2 1 (by omega) (by omega)) (h 2 2 (by omega) (by omega)) (h 2 3 (by omega) (by omega)) (h 2 4 (by omega) (by omega)) (h 4 1 (by omega) (by omega)) (h 4 2 (by omega) (by omega)) (h 4 3 (by omega) (by omega)) (h 4 4 (by omega) (by omega)))
  have e4 := ab_mul (h 4 0 (by omega) (by omega)) (d4_le (h 0 1 (by omega) (by omega)) (h 0 2 (by omega) (by omega)) (h 0 3 (by omega) (by omega)) (h 0 4 (by omega) (by omega)) (h 1 1 (by omega) (by omega)) (h 1 2 (by omega) (by omega)) (h 1 3 (by omega) (by omega)) (h 1 4 (by omega) (by omega)) (h 2 1 (by omega) (by omega)) (h 2 2 (by omega) (by omega)) (h 2 3 (by omega) (by omega)) (h 2 4 (by omega) (by omega)) (h 3 1 (by omega) (by omega)) (h 3 2 (by omega) (by omega)) (h 3 3 (by omega) (by omega)) (h 3 4 (by omega) (by omega)))
  unfold DT d5; omega
