/-! ===== PURE: rows of pivots; a relation; isHad ===== -/
theorem cntS_cg {S S' : Nat} : ∀ p, (∀ x, x < p → S.testBit x = S'.testBit x) → cntS S p = cntS S' p
  | 0, _ => rfl
  | p + 1, h => by
    unfold cntS
    rw [cntS_cg p (fun x hx => h x (by omega)), h p (by omega)]
theorem ets_cnt (A : Nat → Nat → Int64) (S : Nat) : ∀ c, (ets A S c).2.1 = cntS (ets A S c).2.2.1 c ∧ (∀ x, x < c → (ets A S c).2.2.1.testBit x = true → (ets A S c).2.2.2.1 x = cntS (ets A S c).2.2.1 x) ∧ ((ets A S c).2.1 = 0 → (ets A S c).2.2.2.2 = 1)
  | 0 => ⟨rfl, fun x h => absurd h (Nat.not_lt_zero _), fun _ => rfl⟩
  | c + 1 => by
    obtain ⟨i1, i2, i3⟩ := ets_cnt A S c
    have hb : ∀ x, x < c → (ets A S (c + 1)).2.2.1.testBit x = (ets A S c).2.2.1.testBit x := fun x hx => ets_bit_s hx
    have e1 := cntS_cg c hb
    have hl := ets_lt A S c
    rcases ets_step (A := A) (set := S) (c := c) with ⟨h1, h2, r, h3⟩ | ⟨h1, h2, _⟩
    · have hnew : ets A S (c + 1) = (ecl (esw (ets A S c).1 r (ets A S c).2.1) (ets A S c).2.1 c (ets A S c).2.2.2.2, (ets A S c).2.1 + 1, (ets A S c).2.2.1 + 2 ^ c, (fun j => if j = c then (ets A S c).2.1 else (ets A S c).2.2.2.1 j), esw (ets A S c).1 r (ets A S c).2.1 (ets A S c).2.1 c) := by
        show est1 S c (ets A S c) = _
        unfold est1; rw [if_pos h2, h3]
      have hk : (ets A S (c + 1)).2.1 = (ets A S c).2.1 + 1 := by rw [hnew]
      refine ⟨?_, ?_, ?_⟩
      · rw [cnt_t h1, e1, hk, i1]
      · intro x hx hb'
        have hr : (ets A S (c + 1)).2.2.2.1 x = if x = c then (ets A S c).2.1 else (ets A S c).2.2.2.1 x := by rw [hnew]
        rw [hr]
        by_cases e : x = c
        · subst e; rw [if_pos rfl, e1, i1]
        · rw [if_neg e]
          rw [hb x (by omega)] at hb'
          rw [i2 x (by omega) hb']
          exact (cntS_cg x (fun y hy => hb y (by omega))).symm
      · intro h0; rw [hk] at h0; omega
    · rw [h2]
      have hc0 : (ets A S c).2.2.1.testBit c = false := Nat.testBit_lt_two_pow hl
      refine ⟨?_, ?_, i3⟩
      · rw [cnt_f (by simp [hc0])]; exact i1
      · intro x hx hb'
        by_cases e : x = c
        · subst e; rw [hc0] at hb'; cases hb'
        · exact i2 x (by omega) hb'
theorem sgd_nz {s : Int} {g : Nat} (h : 0 < g) : sgd s g ≠ 0 := by
  unfold sgd; split <;> omega
theorem ez_ok {Z : Nat → Nat → Int} {A : Nat → Nat → Int64} {q : Nat} (hA : ∀ r c, r < 5 → c < q → (A r c).toInt = Z r c ∧ (Z r c).natAbs ≤ 20) (S : Nat) : ER q (ets A S q) (zts Z S q) ∧ (zts Z S q).2.2.2.2 ≠ 0 ∧ (∀ r j, r < 5 → j < q → ((zts Z S q).1 r j).natAbs ≤ 384000000) ∧ (zts Z S q).2.2.2.2.natAbs ≤ 384000000 ∧ (zts Z S q).2.1 ≤ 5 := by
  obtain ⟨h1, h2, N, sg, hJ⟩ := zts_J Z S q
  have := ZJ_le hJ h1 (fun r c hr hc => (hA r c hr hc).2)
  exact ⟨ets_zts S hA q (Nat.le_refl _), ZJ_sc hJ, this.1, this.2, hJ.2.2.2.1⟩
theorem ad0 (x : Int32) : x + 0 = x := by grind
theorem cl0 : Int32.toNatClampNeg 0 = 0 := by decide
theorem tdiv_le {a d : Int} : (a.tdiv d).natAbs ≤ a.natAbs := by
  rw [Int.natAbs_tdiv]; exact Nat.div_le_self _ _
/-- the greatest divisor of a row: the reference's loop -/
theorem mh_gcd {v1 v2 : Int32} {n : Nat} {s : Int64} {sz : Int} {v : Nat → Int} {σ : Sg} (hn5 : n ≤ 5) (hs : s.toInt = sz) (hz : sz ≠ 0) (hsl : sz.natAbs ≤ 384000000) (h1 : n = 0 → sz = 1) (hv : ∀ r, r < n → (σ.2 123 (9 * r + n)).toInt = v r ∧ (v r).natAbs ≤ 384000000) : ∃ by' : Int64, m_isHad_117_L58 fu v1 v2 (nI n) s s 0 σ = m_isHad_117_L112 fu v1 v2 (nI n) s by' 0 0 σ ∧ by'.toInt = sgd sz (gch sz v n) := by
  refine loopE (L := fun k r x => m_isHad_117_L58 k v1 v2 (nI n) s x (nI r) σ) (N := n) (P := fun r x => x.toInt.natAbs = gch sz v r ∧ (r = 0 → x.toInt = sz) ∧ (1 ≤ r → 0 ≤ x.toInt)) (Q := fun r => ∃ by' : Int64, r = m_isHad_117_L112 fu v1 v2 (nI n) s by' 0 0 σ ∧ by'.toInt = sgd sz (gch sz v n)) ?_ ?_ (fu_lt (by omega)) ⟨by rw [hs]; rfl, fun _ => hs, fun h => absurd h (by omega)⟩
  · rintro k r x hr ⟨g1, g3, g4⟩
    obtain ⟨e1, e2⟩ := hv r hr
    have hd : gch sz v r ≤ sz.natAbs := Nat.le_of_dvd (by omega) (gch_s sz v r)
    have hx : -9223372036854775808 < x.toInt := by omega
    refine ⟨gcL x (σ.2 123 (9 * r + n)), ?_, ?_⟩
    · show m_isHad_117_H58 (m_isHad_117_L58 k) v1 v2 (nI n) s x (nI r) σ = _
      unfold m_isHad_117_H58
      rw [if_neg (nI_ge hr (by omega)), ix9, in9 (by omega) (by omega), gd_t, cl_n (by omega), mco_eq (a := x.toInt) (b := v r) rfl e1 hx (by omega), bd_s, nI_1]
    · have hg := gcL_toInt (x := x) (y := σ.2 123 (9 * r + n)) (a := x.toInt) (b := v r) rfl e1 hx (by omega)
      have hig : Int.gcd x.toInt (v r) = gch sz v (r + 1) := by
        show Nat.gcd x.toInt.natAbs (v r).natAbs = Nat.gcd (gch sz v r) (v r).natAbs
        rw [g1]
      rw [hig] at hg
      exact ⟨by rw [hg]; simp, fun h => absurd h (by omega), fun _ => by rw [hg]; omega⟩
  · rintro k x ⟨g1, g3, g4⟩
    have hd : gch sz v n ≤ sz.natAbs := Nat.le_of_dvd (by omega) (gch_s sz v n)
    have st : m_isHad_117_L58 (k + 1) v1 v2 (nI n) s x (nI n) σ = m_isHad_117_L112 fu v1 v2 (nI n) s (if 0 ≤ lg_cmp s 0 then x else -x) 0 0 σ := by
      show m_isHad_117_H58 (m_isHad_117_L58 k) v1 v2 (nI n) s x (nI n) σ = _
      unfold m_isHad_117_H58 m_isHad_117_b104
      rw [if_pos (nI_le (by omega) (by omega))]
      split <;> rfl
    refine ⟨_, st, ?_⟩
    have hc : (0 ≤ lg_cmp s 0) ↔ 0 ≤ sz := by
      have h2 : (lg_cmp s 0 < 0) ↔ sz < 0 := by
        rw [cmp_lt, Int64.lt_iff_toInt_lt, hs, L_0]
      constructor
      · intro h; exact Int.not_lt.mp (fun w => absurd (h2.mpr w) (Int32.not_lt.mpr h))
      · intro h; exact Int32.not_lt.mp (fun w => absurd (h2.mp w) (by omega))
    have hxx : 0 ≤ x.toInt ∧ x.toInt = gch sz v n := by
      rcases Nat.eq_zero_or_pos n with w | w
      · have := h1 w
        have := g3 w
        omega
      · have := g4 w; omega
    unfold sgd
    by_cases h : 0 ≤ sz
    · rw [if_pos (hc.mpr h), if_pos h]; exact hxx.2
    · rw [if_neg (fun w => h (hc.mp w)), if_neg h, L_neg hxx.2 (by omega)]
theorem mhad {S q q0 : Nat} {σ : Sg} (h0 : σ.1 118 0 = nI q) (hq : q ≤ 8) (hA : ∀ r c, r < 5 → c < q → (mA σ r c).toInt = mZ σ r c ∧ (mZ σ r c).natAbs ≤ 20) (hS : S < 2 ^ q) (hq0 : q0 < q) (hP : (ets (mA σ) S q).2.2.1 = S) : ((∀ r, (ets (mA σ) S q).2.1 ≤ r → r < 5 → (ets (mA σ) S q).1 r q0 = 0) → ∃ σ', m_isHad_117 (nI S) (nI q0) σ = some (1, σ') ∧ FR [123, 124] σ σ' ∧ ∀ p, p < q → (σ'.2 124 p).toInt = rl (zts (mZ σ) S q) q0 p) ∧ ((¬ ∀ r, (ets (mA σ) S q).2.1 ≤ r → r < 5 → (ets (mA σ) S q).1 r q0 = 0) → ∃ σ', m_isHad_117 (nI S) (nI q0) σ = some (0, σ') ∧ FR [123, 124] σ σ') := by
  have hS8 : S < 256 := by have := pw_256 hq; omega
  have hc8 := cnt_le S q
  obtain ⟨σ1, w1, w2, w3⟩ := mlays (q0 := q0) hS8 hq (by omega) σ h0
  obtain ⟨c1, c2, c3⟩ := ets_cnt (mA σ) S q
  rw [hP] at c1 c2
  have hm := (mc_main (w := cntS S q + 1) (cl := clf S q0 q) (A := mA σ) hq hS (by omega) (by omega) (fun p hp hb => clf_mem S q0 q p hp hb) (fun c hc => sc_nz hA hc) q fu 0 σ1 (by omega) (fu_lt (by omega)) (fun x h => absurd h (Nat.not_lt_zero _)) rfl w3).1 hP
  obtain ⟨σ2, x1, x2, x3, x4⟩ := hm
  have hn1 : nI (cntS S q) + 1 = nI (cntS S q + 1) := nI_1 _
  have hdef : m_isHad_117 (nI S) (nI q0) σ = m_isHad_117_L20 fu (nI S) (nI q0) (nI (cntS S q)) (ets (mA σ) S q).2.2.2.2 (nI (cntS S q)) σ2 := by
    unfold m_isHad_117
    rw [w1, bd_s]
    unfold m_clears_117
    rw [hn1, show (1 : Int64) = (ets (mA σ) S 0).2.2.2.2 from rfl, show (0 : Int32) = nI (cntS S 0) from rfl, x1, bd_s]
  have hk5 := ets_rk (mA σ) S q
  rw [c1] at hk5
  have hFR : FR [123, 124] σ σ2 := FR_trans (FR_mono (by decide) w2) (FR_mono (by decide) x2)
  have htab : ∀ r, r < 5 → σ2.2 123 (9 * r + cntS S q) = (ets (mA σ) S q).1 r q0 := by
    intro r hr
    rw [x3 r _ hr (by omega)]
    show (ets (mA σ) S q).1 r (clf S q0 q (cntS S q)) = _
    rw [clf_hi S q0 q _ (Nat.le_refl _)]
  rw [c1, hdef]
  have hro : ∀ k r, r < 5 → m_isHad_117_L20 (k + 1) (nI S) (nI q0) (nI (cntS S q)) (ets (mA σ) S q).2.2.2.2 (nI r) σ2 = if (ets (mA σ) S q).1 r q0 = 0 then m_isHad_117_L20 k (nI S) (nI q0) (nI (cntS S q)) (ets (mA σ) S q).2.2.2.2 (nI (r + 1)) σ2 else some (0, σ2) := by
    intro k r hr
    show m_isHad_117_H20 (m_isHad_117_L20 k) _ _ _ _ (nI r) σ2 = _
    unfold m_isHad_117_H20
    rw [if_neg (show ¬ (5 : Int32) ≤ nI r from nI_ge (b := 5) hr (by decide)), ix9, in9 hr (by omega), gd_t, cl_n (by omega), htab r hr, nI_1]
    by_cases g : (ets (mA σ) S q).1 r q0 = 0
    · rw [if_pos g, if_pos (cmp_eq.mpr g)]
    · rw [if_neg g, if_neg (fun w => g (cmp_eq.mp w))]
  constructor
  · intro hz
    obtain ⟨hE, z1, z2, z3, z4⟩ := ez_ok hA S
    obtain ⟨E1, E2, E3, E4, E5⟩ := hE
    have hend : m_isHad_117_L20 fu (nI S) (nI q0) (nI (cntS S q)) (ets (mA σ) S q).2.2.2.2 (nI (cntS S q)) σ2 = m_isHad_117_L58 fu (nI S) (nI q0) (nI (cntS S q)) (ets (mA σ) S q).2.2.2.2 (ets (mA σ) S q).2.2.2.2 0 σ2 := by
      refine loopQ (fun k r (_ : Unit) => m_isHad_117_L20 k (nI S) (nI q0) (nI (cntS S q)) (ets (mA σ) S q).2.2.2.2 (nI r) σ2) 5 (fun r _ => cntS S q ≤ r) (fun x => x = m_isHad_117_L58 fu (nI S) (nI q0) (nI (cntS S q)) (ets (mA σ) S q).2.2.2.2 (ets (mA σ) S q).2.2.2.2 0 σ2) ?_ ?_ (5 - cntS S q) fu (cntS S q) () (by omega) (fu_lt (by omega)) (Nat.le_refl _)
      · intro k r _ hr hle
        refine Or.inl ⟨(), ?_, by omega⟩
        try dsimp only
        rw [hro k r hr, if_pos (hz r hle hr)]
      · intro k _ _
        show m_isHad_117_H20 (m_isHad_117_L20 k) _ _ _ _ (nI 5) σ2 = _
        unfold m_isHad_117_H20
        rw [if_pos (show (5 : Int32) ≤ nI 5 by decide)]
    obtain ⟨by', y1, y2⟩ := mh_gcd (v1 := nI S) (v2 := nI q0) (σ := σ2) (n := cntS S q) (s := (ets (mA σ) S q).2.2.2.2) (sz := (zts (mZ σ) S q).2.2.2.2) (v := fun r => (zts (mZ σ) S q).1 r q0) hk5 E5 z1 z3 (fun e => by rw [← E5, c3 (by rw [c1]; exact e)]; rfl) (fun r hr => by
      rw [htab r (by omega)]
      exact ⟨E1 r q0 (by omega) hq0, z2 r q0 (by omega) hq0⟩)
    rw [hend, y1]
    have hby : by' ≠ 0 := by
      intro e
      have := sgd_nz (s := (zts (mZ σ) S q).2.2.2.2) (gch_pos z1 (fun r => (zts (mZ σ) S q).1 r q0) (cntS S q))
      rw [← y2, e] at this
      exact this rfl
    have hne : neBL by' = true := by simp [neBL, hby]
    have hk : (zts (mZ σ) S q).2.1 = cntS S q := by rw [← E2, c1]
    have hPz : (zts (mZ σ) S q).2.2.1 = S := by rw [← E3, hP]
    refine loopE (L := fun k p τ => m_isHad_117_L112 k (nI S) (nI q0) (nI (cntS S q)) (ets (mA σ) S q).2.2.2.2 by' (nI (cntS S p)) (nI p) τ) (N := q) (P := fun p τ => FR [124] σ2 τ ∧ ∀ x, x < p → x ≠ q0 → (τ.2 124 x).toInt = rl (zts (mZ σ) S q) q0 x) (Q := fun r => ∃ σ', r = some (1, σ') ∧ FR [123, 124] σ σ' ∧ ∀ p, p < q → (σ'.2 124 p).toInt = rl (zts (mZ σ) S q) q0 p) ?_ ?_ (fu_lt (by omega)) ⟨FR_refl _ _, fun x h => absurd h (Nat.not_lt_zero _)⟩
    · rintro k p τ hp ⟨f, g⟩
      have e0 : τ.1 118 0 = nI q := by rw [FR_i f (by decide), FR_i hFR (by decide)]; exact h0
      have hcp := cnt_le S p
      have hcpq : S.testBit p = true → cntS S p < cntS S q := fun h => cnt_lt h hp
      have et : ∀ r, r < 5 → τ.2 123 (9 * r + cntS S q) = (ets (mA σ) S q).1 r q0 := fun r hr => by rw [FR_l f (by decide)]; exact htab r hr
      refine ⟨sl τ 124 p (if S.testBit p = true then (-((ets (mA σ) S q).1 (cntS S p) q0)) / by' else 0), ?_, FR_sl f (by decide), ?_⟩
      · show m_isHad_117_H112 (m_isHad_117_L112 k) (nI S) (nI q0) (nI (cntS S q)) _ by' (nI (cntS S p)) (nI p) τ = _
        unfold m_isHad_117_H112 m_isHad_117_b158 m_isHad_117_b175
        rw [e0, if_neg (nI_ge hp (by omega)), m_has_eq hS8 (by omega), bd_s, inB_t (by omega) (by omega), cl_n (by omega), hne]
        by_cases hb : S.testBit p = true
        · have := hcpq hb
          rw [if_pos hb, if_pos hb, if_neg (by decide), ix9, in9 (by omega) (by omega), gd_t, gd_t, gd_t, cl_n (by omega), et _ (by omega), m_has_eq hS8 (by omega), bd_s, if_pos hb, if_neg (by decide), nI_1, nI_1, cnt_t hb]
        · rw [if_neg hb, if_neg hb, if_pos rfl, gd_t, m_has_eq hS8 (by omega), bd_s, if_neg hb, if_pos rfl, nI_1, ad0, cnt_f hb]
      · intro x hx hxq
        by_cases e : x = p
        · subst e
          rw [sl_e]
          unfold rl
          rw [if_neg hxq, hPz]
          by_cases hb : S.testBit x = true
          · have := hcpq hb
            rw [if_pos hb, if_pos hb, hk, ← E4, c2 x hp hb]
            have ha : (-((ets (mA σ) S q).1 (cntS S x) q0)).toInt = -((zts (mZ σ) S q).1 (cntS S x) q0) := L_neg (E1 _ _ (by omega) hq0) (by have := z2 (cntS S x) q0 (by omega) hq0; omega)
            exact L_div ha y2 (by have := z2 (cntS S x) q0 (by omega) hq0; omega)
          · rw [if_neg hb, if_neg hb]; rfl
        · rw [sl_j e]; exact g x (by omega) hxq
    · rintro k τ ⟨f, g⟩
      have e0 : τ.1 118 0 = nI q := by rw [FR_i f (by decide), FR_i hFR (by decide)]; exact h0
      refine ⟨sl τ 124 q0 ((ets (mA σ) S q).2.2.2.2 / by'), ?_, FR_sl (FR_trans hFR (FR_mono (by decide) f)) (by decide), ?_⟩
      · show m_isHad_117_H112 (m_isHad_117_L112 k) (nI S) (nI q0) (nI (cntS S q)) _ by' (nI (cntS S q)) (nI q) τ = _
        unfold m_isHad_117_H112
        rw [e0, if_pos (nI_le (by omega) (by omega)), hne, inB_t (by omega) (by omega), gd_t, gd_t, cl_n (by omega)]
      · intro p hp
        by_cases e : p = q0
        · subst e
          rw [sl_e]
          unfold rl
          rw [if_pos rfl, hk]
          exact L_div E5 y2 (by omega)
        · rw [sl_j e]; exact g p hp e
  · intro hz
    refine ⟨σ2, ?_, hFR⟩
    refine loopQ (fun k r (_ : Unit) => m_isHad_117_L20 k (nI S) (nI q0) (nI (cntS S q)) (ets (mA σ) S q).2.2.2.2 (nI r) σ2) 5 (fun r _ => ∃ r', r ≤ r' ∧ r' < 5 ∧ ¬ (ets (mA σ) S q).1 r' q0 = 0) (fun x => x = some (0, σ2)) ?_ ?_ (5 - cntS S q) fu (cntS S q) () (by omega) (fu_lt (by omega)) ?_
    · rintro k r _ hr ⟨r', h1, h2, h3⟩
      try dsimp only
      rw [hro k r hr]
      by_cases g : (ets (mA σ) S q).1 r q0 = 0
      · rw [if_pos g]
        refine Or.inl ⟨(), rfl, r', ?_, h2, h3⟩
        rcases Nat.lt_or_eq_of_le h1 with w | w
        · omega
        · subst w; exact absurd g h3
      · rw [if_neg g]; exact Or.inr rfl
    · rintro k _ ⟨r', h1, h2, _⟩; omega
    · simp only [Classical.not_forall] at hz
      obtain ⟨r', h1, h2, h3⟩ := hz
      exact ⟨r', h1, h2, h3⟩
