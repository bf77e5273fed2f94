/-! ===== PURE: longs as integers; the greatest divisor ===== -/
theorem bm64 {z : Int} (h1 : -9223372036854775808 ≤ z) (h2 : z < 9223372036854775808) : z.bmod (2 ^ 64) = z := by
  apply Int.bmod_eq_of_le <;> omega
theorem bm32 {z : Int} (h1 : -2147483648 ≤ z) (h2 : z < 2147483648) : z.bmod (2 ^ 32) = z := by
  apply Int.bmod_eq_of_le <;> omega
theorem L_rng (x : Int64) : -9223372036854775808 ≤ x.toInt ∧ x.toInt < 9223372036854775808 := ⟨by have := x.le_toInt; simpa using this, by have := x.toInt_lt; simpa using this⟩
theorem I_rng (x : Int32) : -2147483648 ≤ x.toInt ∧ x.toInt < 2147483648 := ⟨by have := x.le_toInt; simpa using this, by have := x.toInt_lt; simpa using this⟩
theorem L_add {x y : Int64} {a b : Int} (ha : x.toInt = a) (hb : y.toInt = b) (h1 : -9223372036854775808 ≤ a + b) (h2 : a + b < 9223372036854775808) : (x + y).toInt = a + b := by
  rw [Int64.toInt_add, ha, hb, bm64 h1 h2]
theorem L_sub {x y : Int64} {a b : Int} (ha : x.toInt = a) (hb : y.toInt = b) (h1 : -9223372036854775808 ≤ a - b) (h2 : a - b < 9223372036854775808) : (x - y).toInt = a - b := by
  rw [Int64.toInt_sub, ha, hb, bm64 h1 h2]
theorem L_mul {x y : Int64} {a b : Int} (ha : x.toInt = a) (hb : y.toInt = b) (h1 : -9223372036854775808 ≤ a * b) (h2 : a * b < 9223372036854775808) : (x * y).toInt = a * b := by
  rw [Int64.toInt_mul, ha, hb, bm64 h1 h2]
theorem L_neg {x : Int64} {a : Int} (ha : x.toInt = a) (h1 : -9223372036854775808 < a) : (-x).toInt = -a := by
  have := L_rng x
  rw [Int64.toInt_neg, ha, bm64 (by omega) (by omega)]
theorem L_div {x y : Int64} {a b : Int} (ha : x.toInt = a) (hb : y.toInt = b) (h1 : -9223372036854775808 < a) : (x / y).toInt = a.tdiv b := by
  have hx := L_rng x
  have hn : (a.tdiv b).natAbs ≤ a.natAbs := by
    rw [Int.natAbs_tdiv]; exact Nat.div_le_self _ _
  rw [Int64.toInt_div, ha, hb, bm64 (by omega) (by omega)]
theorem L_rem {x y : Int64} {a b : Int} (ha : x.toInt = a) (hb : y.toInt = b) (h1 : -9223372036854775808 < a) : (lrm x y).toInt = a.tmod b := by
  have hx := L_rng x
  have hm : (a.tmod b) = a - a.tdiv b * b := by
    have := Int.tmod_add_tdiv_mul a b; omega
  have hq : (a.tdiv b * b).natAbs ≤ a.natAbs := by
    rw [Int.natAbs_mul, Int.natAbs_tdiv]; exact Nat.div_mul_le_self _ _
  have hr : (a.tmod b).natAbs ≤ a.natAbs := by
    rw [Int.natAbs_tmod]; exact Nat.mod_le _ _
  unfold lrm
  rw [hm]
  exact L_sub ha (L_mul (L_div ha hb h1) hb (by omega) (by omega)) (by omega) (by omega)
theorem L_eq {x y : Int64} (h : x.toInt = y.toInt) : x = y := Int64.toInt_inj.mp h
theorem L_0 : (0 : Int64).toInt = 0 := by decide
theorem L_abs {x : Int64} {a : Int} (ha : x.toInt = a) (h1 : -9223372036854775808 < a) : (labs x).toInt = (a.natAbs : Int) := by
  unfold labs
  by_cases h : 0 < x
  · have h' := Int64.lt_iff_toInt_lt.mp h
    rw [L_0] at h'
    rw [if_pos h]; omega
  · have h' : ¬ (0 : Int64).toInt < x.toInt := fun e => h (Int64.lt_iff_toInt_lt.mpr e)
    rw [L_0] at h'
    rw [if_neg h, L_neg ha h1]; omega
/-- the chain of remainders -/
def gl : Nat → Int64 → Int64 → Int64
  | 0, a, _ => a
  | n + 1, a, b => if b = 0 then a else gl n b (lrm a b)
/-- it has come to its end -/
def glz : Nat → Int64 → Int64 → Prop
  | 0, _, b => b = 0
  | n + 1, a, b => b = 0 ∨ glz n b (lrm a b)
theorem gl_spec : ∀ (m n : Nat) (x y : Int64) (a b : Nat), x.toInt = (a : Int) → y.toInt = (b : Int) → b < 2 ^ m → 2 * m ≤ n → glz n x y ∧ (gl n x y).toInt = (Nat.gcd a b : Int)
  | 0, n, x, y, a, b, ha, hb, hm, hn => by
    have b0 : b = 0 := by simp at hm; omega
    have y0 : y = 0 := L_eq (by rw [hb, L_0, b0]; rfl)
    subst y0
    subst b0
    cases n with
    | zero => exact ⟨rfl, by unfold gl; rw [ha]; simp⟩
    | succ n => exact ⟨Or.inl rfl, by unfold gl; rw [if_pos rfl, ha]; simp⟩
  | m + 1, n, x, y, a, b, ha, hb, hm, hn => by
    obtain ⟨n, rfl⟩ : ∃ k, n = k + 2 := ⟨n - 2, by omega⟩
    have hxr := L_rng x
    have hyr := L_rng y
    by_cases y0 : y = 0
    · have b0 : b = 0 := by rw [y0, L_0] at hb; omega
      subst y0; subst b0
      exact ⟨Or.inl rfl, by unfold gl; rw [if_pos rfl, ha]; simp⟩
    · have b0 : b ≠ 0 := fun e => y0 (L_eq (by rw [hb, L_0, e]; rfl))
      have hr : (lrm x y).toInt = ((a % b : Nat) : Int) := by
        rw [L_rem ha hb (by omega)]; rfl
      have hlt : a % b < b := Nat.mod_lt _ (by omega)
      by_cases r0 : lrm x y = 0
      · have q0 : a % b = 0 := by rw [r0, L_0] at hr; omega
        refine ⟨Or.inr (Or.inl r0), ?_⟩
        unfold gl
        rw [if_neg y0, r0]
        unfold gl
        rw [if_pos rfl, hb, Nat.gcd_comm, Nat.gcd_rec, q0]; simp
      · have q0 : a % b ≠ 0 := fun e => r0 (L_eq (by rw [hr, L_0, e]; rfl))
        have hr2 : (lrm y (lrm x y)).toInt = ((b % (a % b) : Nat) : Int) := by
          rw [L_rem hb hr (by omega)]; rfl
        have hh : b % (a % b) < 2 ^ m := by
          have h1 : b % (a % b) < a % b := Nat.mod_lt _ (by omega)
          have h2 : b % (a % b) + (a % b) * (b / (a % b)) = b := Nat.mod_add_div _ _
          have h3 : 1 ≤ b / (a % b) := Nat.div_pos (by omega) (by omega)
          have h4 : (a % b) * 1 ≤ (a % b) * (b / (a % b)) := Nat.mul_le_mul_left _ h3
          have h5 : 2 ^ (m + 1) = 2 ^ m + 2 ^ m := by rw [Nat.pow_succ]; omega
          omega
        have ih := gl_spec m n (lrm x y) (lrm y (lrm x y)) (a % b) (b % (a % b)) hr hr2 hh (by omega)
        refine ⟨Or.inr (Or.inr ih.1), ?_⟩
        unfold gl
        rw [if_neg y0]
        unfold gl
        rw [if_neg r0, ih.2]
        congr 1
        rw [Nat.gcd_comm (a % b), ← Nat.gcd_rec, ← Nat.gcd_rec, Nat.gcd_comm]
theorem gl_ok {x y : Int64} {a b : Nat} (ha : x.toInt = (a : Int)) (hb : y.toInt = (b : Int)) {n : Nat} (hn : 126 ≤ n) : glz n x y ∧ (gl n x y).toInt = (Nat.gcd a b : Int) := by
  have := L_rng y
  exact gl_spec 63 n x y a b ha hb (by omega) hn
/-- the class's loop -/
theorem jgd_loop {σ : Sg} : ∀ (m n k : Nat) (x y : Int64), k + m = 200 → m < n → j_greatestDivisor_s_L15 n x y (nI k) σ = some (gl m x y, σ)
  | 0, n, k, x, y, hk, hn => by
    obtain ⟨n, rfl⟩ : ∃ j, n = j + 1 := ⟨n - 1, by omega⟩
    obtain rfl : k = 200 := by omega
    unfold j_greatestDivisor_s_L15 j_greatestDivisor_s_H15
    rw [if_pos (by decide)]; rfl
  | m + 1, n, k, x, y, hk, hn => by
    obtain ⟨n, rfl⟩ : ∃ j, n = j + 1 := ⟨n - 1, by omega⟩
    unfold j_greatestDivisor_s_L15 j_greatestDivisor_s_H15
    rw [if_neg (show ¬ (200 : Int32) ≤ nI k from nI_ge (b := 200) (by omega) (by decide))]
    unfold gl
    by_cases y0 : y = 0
    · rw [if_pos (cmp_eq.mpr y0), if_pos y0]; rfl
    · rw [if_neg (fun e => y0 (cmp_eq.mp e)), if_neg y0, show neBL y = true by simp [neBL, y0], gd_t, nI_1]
      exact jgd_loop m n (k + 1) y (lrm x y) (by omega) (by omega)
theorem mco_loop {σ : Sg} : ∀ (m n : Nat) (x y : Int64), m < n → glz m x y → m_common_s_L28 n x y σ = some (gl m x y, σ)
  | 0, n, x, y, hn, hz => by
    obtain ⟨n, rfl⟩ : ∃ j, n = j + 1 := ⟨n - 1, by omega⟩
    unfold m_common_s_L28 m_common_s_H28
    rw [if_pos (cmp_eq.mpr hz)]; rfl
  | m + 1, n, x, y, hn, hz => by
    obtain ⟨n, rfl⟩ : ∃ j, n = j + 1 := ⟨n - 1, by omega⟩
    unfold m_common_s_L28 m_common_s_H28 gl
    by_cases y0 : y = 0
    · rw [if_pos (cmp_eq.mpr y0), if_pos y0]
    · rw [if_neg (fun e => y0 (cmp_eq.mp e)), if_neg y0, show neBL y = true by simp [neBL, y0], gd_t]
      exact mco_loop m n y (lrm x y) (by omega) (hz.resolve_left y0)
/-- the greatest divisor, of both sides -/
def gcL (x y : Int64) : Int64 := gl 200 (labs x) (labs y)
theorem jgd_eq (x y : Int64) (σ : Sg) : j_greatestDivisor_s x y σ = some (gcL x y, σ) := jgd_loop 200 fu 0 _ _ (by omega) (by decide)
theorem labs_if (x : Int64) : (if 0 ≤ lg_cmp x 0 then x else -x) = labs x := by
  unfold labs
  by_cases h : 0 < x
  · rw [if_pos h, if_pos]
    have : ¬ lg_cmp x 0 < 0 := fun e => Int64.lt_irrefl (Int64.lt_trans h (cmp_lt.mp e))
    exact Int32.not_lt.mp this
  · rw [if_neg h]
    by_cases h0 : x = 0
    · subst h0; decide
    · rw [if_neg]
      intro e
      have h1 : ¬ x < 0 := fun g => absurd (cmp_lt.mpr g) (Int32.not_lt.mpr e)
      rcases Int64.lt_or_eq_of_le (Int64.not_lt.mp h1) with g | g
      · exact h g
      · exact h0 g.symm
theorem mco_eq {x y : Int64} {a b : Int} (ha : x.toInt = a) (hb : y.toInt = b) (h1 : -9223372036854775808 < a) (h2 : -9223372036854775808 < b) (σ : Sg) : m_common_s x y σ = some (gcL x y, σ) := by
  have w := gl_ok (L_abs ha h1) (L_abs hb h2) (n := 200) (by omega)
  have e : m_common_s x y σ = m_common_s_L28 fu (if 0 ≤ lg_cmp x 0 then x else -x) (if 0 ≤ lg_cmp y 0 then y else -y) σ := by
    unfold m_common_s m_common_s_b12 m_common_s_b26
    by_cases g1 : 0 ≤ lg_cmp x 0 <;> by_cases g2 : 0 ≤ lg_cmp y 0 <;> simp only [g1, g2, if_true, if_false]
  rw [e, labs_if, labs_if]
  exact mco_loop 200 fu _ _ (by decide) w.1
theorem gcL_toInt {x y : Int64} {a b : Int} (ha : x.toInt = a) (hb : y.toInt = b) (h1 : -9223372036854775808 < a) (h2 : -9223372036854775808 < b) : (gcL x y).toInt = (Int.gcd a b : Int) :=
  (gl_ok (L_abs ha h1) (L_abs hb h2) (n := 200) (by omega)).2
