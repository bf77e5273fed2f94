/-! ===== PURE: the reference's clears ===== -/
theorem mc_in {k5 : Int32 → Int32 → Int64 → Int32 → Sg → Option (Int64 × Sg)} {k79 : Int32 → Int32 → Int64 → Int32 → Int64 → Int32 → Sg → Option (Int64 × Sg)} {v1 : Int32} {w c r : Nat} {T : Nat → Nat → Int64} {pv f sc : Int64} (hw : w ≤ 9) (hc : c < 5) (hr : r < 5) (hne : r ≠ c) (hsc : sc ≠ 0) (σ : Sg) (hT : TW w T σ) : ∃ σ', m_clears_117_L113 k5 k79 fu v1 (nI w) sc (nI c) pv (nI r) f 0 σ = k79 v1 (nI w) sc (nI c) pv (nI (r + 1)) σ' ∧ FR [123] σ σ' ∧ TW w (fun u i => if u = r then (T u i * pv - f * T c i) / sc else T u i) σ' := by
  refine loopE (L := fun k i s => m_clears_117_L113 k5 k79 k v1 (nI w) sc (nI c) pv (nI r) f (nI i) s) (N := w) (P := fun j τ => FR [123] σ τ ∧ TW w (fun u i => if u = r ∧ i < j then (T u i * pv - f * T c i) / sc else T u i) τ) (Q := fun r' => ∃ σ', r' = k79 v1 (nI w) sc (nI c) pv (nI (r + 1)) σ' ∧ FR [123] σ σ' ∧ TW w (fun u i => if u = r then (T u i * pv - f * T c i) / sc else T u i) σ') ?_ ?_ (fu_lt (by omega)) ⟨FR_refl _ _, fun u i hu hi => (hT u i hu hi).trans (if_neg (by omega)).symm⟩
  · rintro k j τ hj ⟨fr, g⟩
    refine ⟨sl τ 123 (9 * r + j) ((T r j * pv - f * T c j) / sc), ?_, FR_sl fr (by decide), TW_set hw (by omega) g (fun u i hu hi => ?_)⟩
    · show m_clears_117_H113 k5 k79 (m_clears_117_L113 k5 k79 k) v1 (nI w) sc (nI c) pv (nI r) f (nI j) τ = _
      unfold m_clears_117_H113
      have ns : neBL sc = true := by simp [neBL, hsc]
      have e1 : τ.2 123 (9 * r + j) = T r j := (g r j hr hj).trans (if_neg (by omega))
      have e2 : τ.2 123 (9 * c + j) = T c j := (g c j hc hj).trans (if_neg (by omega))
      rw [if_neg (nI_ge hj (by omega)), ix9, ix9, in9 hr (by omega), in9 hc (by omega), ns, gd_t, gd_t, gd_t, gd_t, cl_n (by omega), cl_n (by omega), e1, e2, nI_1]
    · by_cases e : u = r ∧ i = j
      · rw [if_pos ⟨e.1, by omega⟩, if_pos e, e.1, e.2]
      · rw [if_neg e]
        by_cases e2 : u = r ∧ i < j
        · rw [if_pos e2, if_pos ⟨e2.1, by omega⟩]
        · rw [if_neg e2, if_neg (by omega)]
  · rintro k τ ⟨fr, g⟩
    refine ⟨τ, ?_, fr, ?_⟩
    · show m_clears_117_H113 k5 k79 (m_clears_117_L113 k5 k79 k) v1 (nI w) sc (nI c) pv (nI r) f (nI w) τ = _
      unfold m_clears_117_H113 m_clears_117_b173
      rw [if_pos (nI_le (by omega) (by omega)), nI_1]
    · intro u i hu hi
      rw [g u i hu hi]
      dsimp only
      by_cases e : u = r
      · rw [if_pos ⟨e, hi⟩, if_pos e]
      · rw [if_neg (fun h => e h.1), if_neg e]
theorem mc_rows {k5 : Int32 → Int32 → Int64 → Int32 → Sg → Option (Int64 × Sg)} {v1 : Int32} {w c : Nat} {T : Nat → Nat → Int64} {sc : Int64} (hw : w ≤ 9) (hc : c < 5) (hcw : c < w) (hsc : sc ≠ 0) (σ : Sg) (hT : TW w T σ) : ∃ σ', m_clears_117_L79 k5 fu v1 (nI w) sc (nI c) (T c c) 0 σ = k5 v1 (nI w) (T c c) (nI (c + 1)) σ' ∧ FR [123] σ σ' ∧ TW w (ecl T c c sc) σ' := by
  refine loopE (L := fun k i s => m_clears_117_L79 k5 k v1 (nI w) sc (nI c) (T c c) (nI i) s) (N := 5) (P := fun r τ => FR [123] σ τ ∧ TW w (fun u i => if u < r then ecl T c c sc u i else T u i) τ) (Q := fun r' => ∃ σ', r' = k5 v1 (nI w) (T c c) (nI (c + 1)) σ' ∧ FR [123] σ σ' ∧ TW w (ecl T c c sc) σ') ?_ ?_ (by decide) ⟨FR_refl _ _, fun u i hu hi => (hT u i hu hi).trans (if_neg (by omega)).symm⟩
  · rintro k r τ hr ⟨fr, g⟩
    have er : τ.2 123 (9 * r + c) = T r c := (g r c hr hcw).trans (if_neg (by omega))
    have hTc : ∀ i, (if c < r then ecl T c c sc c i else T c i) = T c i := by
      intro i
      unfold ecl
      rw [if_pos rfl]; split <;> rfl
    by_cases e : r = c
    · refine ⟨τ, ?_, fr, ?_⟩
      · show m_clears_117_H79 k5 (m_clears_117_L79 k5 k) v1 (nI w) sc (nI c) (T c c) (nI r) τ = _
        unfold m_clears_117_H79 m_clears_117_b173
        rw [if_neg (show ¬ (5 : Int32) ≤ nI r from nI_ge (b := 5) hr (by decide)), if_pos (by rw [e]), nI_1]
      · intro u i hu hi
        rw [g u i hu hi]
        dsimp only
        by_cases e2 : u < r
        · rw [if_pos e2, if_pos (by omega)]
        · by_cases e3 : u = r
          · rw [if_neg e2, if_pos (by omega)]
            unfold ecl; rw [if_pos (by omega)]
          · rw [if_neg e2, if_neg (by omega)]
    · obtain ⟨τ', x1, x2, x3⟩ := mc_in (k5 := k5) (k79 := m_clears_117_L79 k5 k) (v1 := v1) (pv := T c c) (f := T r c) hw hc hr e hsc τ g
      refine ⟨τ', ?_, FR_trans fr x2, ?_⟩
      · rw [← x1]
        show m_clears_117_H79 k5 (m_clears_117_L79 k5 k) v1 (nI w) sc (nI c) (T c c) (nI r) τ = _
        unfold m_clears_117_H79
        rw [if_neg (show ¬ (5 : Int32) ≤ nI r from nI_ge (b := 5) hr (by decide)), if_neg (fun h => e ((nI_eq (by omega) (by omega)).mp h)), ix9, in9 hr (by omega), gd_t, cl_n (by omega), er]
      · intro u i hu hi
        rw [x3 u i hu hi]
        dsimp only
        rw [hTc]
        by_cases e2 : u = r
        · subst e2
          rw [if_pos rfl, if_neg (Nat.lt_irrefl _), if_pos (Nat.lt_succ_self _)]
          unfold ecl; rw [if_neg e]
        · rw [if_neg e2]
          by_cases e3 : u < r
          · rw [if_pos e3, if_pos (by omega)]
          · rw [if_neg e3, if_neg (by omega)]
  · rintro k τ ⟨fr, g⟩
    refine ⟨τ, ?_, fr, fun u i hu hi => (g u i hu hi).trans (if_pos hu)⟩
    show m_clears_117_H79 k5 (m_clears_117_L79 k5 k) v1 (nI w) sc (nI c) (T c c) (nI 5) τ = _
    unfold m_clears_117_H79
    rw [if_pos (show (5 : Int32) ≤ nI 5 by decide), nI_1]
theorem mc_sw {w a b : Nat} {T : Nat → Nat → Int64} (hw : w ≤ 9) (ha : a < 5) (hb : b < 5) (σ : Sg) (hT : TW w T σ) : ∃ σ', m_swapRows_117 (nI a) (nI b) σ = some ((), σ') ∧ FR [123] σ σ' ∧ TW w (esw T b a) σ' := by
  unfold m_swapRows_117
  by_cases e : a = b
  · refine ⟨σ, ?_, FR_refl _ _, ?_⟩
    · show m_swapRows_117_H2 (m_swapRows_117_L2 19999) (nI a) (nI b) 0 σ = _
      unfold m_swapRows_117_H2 m_swapRows_117_b67
      rw [if_neg (by decide), if_pos (by rw [e])]
    · intro u i hu hi
      rw [hT u i hu hi]
      unfold esw
      subst e
      by_cases e2 : u = a
      · rw [if_pos e2, e2]
      · rw [if_neg e2, if_neg e2]
  · have main : ∃ σ', m_swapRows_117_L2 fu (nI a) (nI b) 0 σ = some ((), σ') ∧ FR [123] σ σ' ∧ TW 9 (esw (fun u i => σ.2 123 (9 * u + i)) b a) σ' := by
      refine loopE (L := fun k i s => m_swapRows_117_L2 k (nI a) (nI b) (nI i) s) (N := 9) (P := fun j τ => FR [123] σ τ ∧ TW 9 (fun u i => if i < j then esw (fun u i => σ.2 123 (9 * u + i)) b a u i else σ.2 123 (9 * u + i)) τ) (Q := fun r' => ∃ σ', r' = some ((), σ') ∧ FR [123] σ σ' ∧ TW 9 (esw (fun u i => σ.2 123 (9 * u + i)) b a) σ') ?_ ?_ (by decide) ⟨FR_refl _ _, fun u i hu hi => (if_neg (by omega)).symm⟩
      · rintro k j τ hj ⟨fr, g⟩
        have e1 : τ.2 123 (9 * a + j) = σ.2 123 (9 * a + j) := (g a j ha hj).trans (if_neg (by omega))
        have e2 : τ.2 123 (9 * b + j) = σ.2 123 (9 * b + j) := (g b j hb hj).trans (if_neg (by omega))
        refine ⟨sl (sl τ 123 (9 * a + j) (σ.2 123 (9 * b + j))) 123 (9 * b + j) (σ.2 123 (9 * a + j)), ?_, FR_sl (FR_sl fr (by decide)) (by decide), ?_⟩
        · show m_swapRows_117_H2 (m_swapRows_117_L2 k) (nI a) (nI b) (nI j) τ = _
          unfold m_swapRows_117_H2
          rw [if_neg (show ¬ (9 : Int32) ≤ nI j from nI_ge (b := 9) hj (by decide)), if_neg (fun h => e ((nI_eq (by omega) (by omega)).mp h)), ix9, ix9, in9 ha hj, in9 hb hj, gd_t, gd_t, gd_t, gd_t, cl_n (by omega), cl_n (by omega), e1, e2, nI_1]
        · refine TW_set (T := fun u i => if u = a ∧ i = j then σ.2 123 (9 * b + j) else if i < j then esw (fun u i => σ.2 123 (9 * u + i)) b a u i else σ.2 123 (9 * u + i)) (by omega) hj (TW_set (by omega) hj g (fun u i hu hi => rfl)) ?_
          intro u i hu hi
          by_cases q1 : i = j
          · subst q1
            by_cases q2 : u = b
            · simp [esw, q2]
            · by_cases q3 : u = a
              · have : ¬ a = b := e
                simp [esw, q3, this]
              · simp [esw, q2, q3]
          · by_cases q2 : i < j
            · have : i < j + 1 := by omega
              simp [q1, q2, this]
            · have : ¬ i < j + 1 := by omega
              simp [q1, q2, this]
      · rintro k τ ⟨fr, g⟩
        refine ⟨τ, ?_, fr, fun u i hu hi => (g u i hu hi).trans (if_pos hi)⟩
        show m_swapRows_117_H2 (m_swapRows_117_L2 k) (nI a) (nI b) (nI 9) τ = _
        unfold m_swapRows_117_H2 m_swapRows_117_b67
        rw [if_pos (show (9 : Int32) ≤ nI 9 by decide)]
    obtain ⟨σ', x1, x2, x3⟩ := main
    refine ⟨σ', x1, x2, ?_⟩
    intro u i hu hi
    rw [x3 u i hu (by omega)]
    unfold esw
    by_cases q2 : u = b
    · rw [if_pos q2, if_pos q2]; exact hT a i ha hi
    · rw [if_neg q2, if_neg q2]
      by_cases q3 : u = a
      · rw [if_pos q3, if_pos q3]; exact hT b i hb hi
      · rw [if_neg q3, if_neg q3]; exact hT u i hu hi
theorem mc_find {k5 : Int32 → Int32 → Int64 → Int32 → Sg → Option (Int64 × Sg)} {v1 : Int32} {w c : Nat} {T : Nat → Nat → Int64} {sc : Int64} {σ : Sg} (hw : w ≤ 9) (hc : c < w) (hT : TW w T σ) : ∀ d n r, r + d = 5 → d < n → m_clears_117_L15 k5 n v1 (nI w) sc (nI c) (nI r) σ = m_clears_117_b45 k5 v1 (nI w) sc (nI c) (match efr T c d r with | none => nI 5 | some x => nI x) σ
  | 0, n, r, hr, hn => by
    obtain ⟨n, rfl⟩ : ∃ m, n = m + 1 := ⟨n - 1, by omega⟩
    obtain rfl : r = 5 := by omega
    show m_clears_117_H15 k5 (m_clears_117_L15 k5 n) v1 (nI w) sc (nI c) (nI 5) σ = _
    unfold m_clears_117_H15
    rw [if_pos (show (5 : Int32) ≤ nI 5 by decide)]; rfl
  | d + 1, n, r, hr, hn => by
    obtain ⟨n, rfl⟩ : ∃ m, n = m + 1 := ⟨n - 1, by omega⟩
    have ih := mc_find (k5 := k5) (v1 := v1) (sc := sc) hw hc hT d n (r + 1) (by omega) (by omega)
    show m_clears_117_H15 k5 (m_clears_117_L15 k5 n) v1 (nI w) sc (nI c) (nI r) σ = _
    unfold m_clears_117_H15
    rw [if_neg (show ¬ (5 : Int32) ≤ nI r from nI_ge (b := 5) (by omega) (by decide)), ix9, in9 (by omega) (by omega), gd_t, cl_n (by omega), hT r c (by omega) hc]
    unfold efr
    by_cases g : T r c = 0
    · rw [if_pos (cmp_eq.mpr g), if_pos g, nI_1, ih]
    · rw [if_neg (fun h => g (cmp_eq.mp h)), if_neg g]
theorem tb_eq {a b q : Nat} (ha : a < 2 ^ q) (hb : b < 2 ^ q) (h : ∀ x, x < q → a.testBit x = b.testBit x) : a = b := by
  apply Nat.eq_of_testBit_eq
  intro x
  by_cases hx : x < q
  · exact h x hx
  · have := pw_le (show q ≤ x by omega)
    rw [Nat.testBit_lt_two_pow (by omega), Nat.testBit_lt_two_pow (by omega)]
theorem mc_main {S q w : Nat} {cl : Nat → Nat} {A : Nat → Nat → Int64} (hq : q ≤ 8) (hS : S < 2 ^ q) (hw : cntS S q ≤ w) (hw9 : w ≤ 9) (hcl : ∀ p, p < q → S.testBit p = true → cl (cntS S p) = p) (hsc : ∀ c, c ≤ q → (ets A S c).2.2.2.2 ≠ 0) : ∀ d m p σ, p + d = q → d < m → (∀ x, x < p → (ets A S p).2.2.1.testBit x = S.testBit x) → (ets A S p).2.1 = cntS S p → TW w (fun u i => (ets A S p).1 u (cl i)) σ → ((ets A S q).2.2.1 = S → ∃ σ', m_clears_117_L5 m (nI (cntS S q)) (nI w) (ets A S p).2.2.2.2 (nI (cntS S p)) σ = some ((ets A S q).2.2.2.2, σ') ∧ FR [123] σ σ' ∧ TW w (fun u i => (ets A S q).1 u (cl i)) σ' ∧ (ets A S q).2.1 = cntS S q) ∧ ((ets A S q).2.2.1 ≠ S → ∃ σ', m_clears_117_L5 m (nI (cntS S q)) (nI w) (ets A S p).2.2.2.2 (nI (cntS S p)) σ = some (0, σ') ∧ FR [123] σ σ')
  | 0, m, p, σ, hp, hm, hb, hr, hT => by
    obtain ⟨m, rfl⟩ : ∃ k, m = k + 1 := ⟨m - 1, by omega⟩
    obtain rfl : p = q := by omega
    have e := tb_eq (ets_lt A S p) hS hb
    refine ⟨fun _ => ⟨σ, ?_, FR_refl _ _, hT, hr⟩, fun h => absurd e h⟩
    show m_clears_117_H5 (m_clears_117_L5 m) (nI (cntS S p)) (nI w) _ (nI (cntS S p)) σ = _
    unfold m_clears_117_H5
    have := cnt_le S p
    rw [if_pos (nI_le (by omega) (by omega))]
  | d + 1, m, p, σ, hp, hm, hb, hr, hT => by
    obtain ⟨m, rfl⟩ : ∃ k, m = k + 1 := ⟨m - 1, by omega⟩
    by_cases hs : S.testBit p = true
    · have hc1 := cnt_lt hs (show p < q by omega)
      have hc2 := cnt_le S q
      have hrk := ets_rk A S p
      have hcc : cl (cntS S p) = p := hcl p (by omega) hs
      have st : m_clears_117_L5 (m + 1) (nI (cntS S q)) (nI w) (ets A S p).2.2.2.2 (nI (cntS S p)) σ = m_clears_117_b45 (m_clears_117_L5 m) (nI (cntS S q)) (nI w) (ets A S p).2.2.2.2 (nI (cntS S p)) (match efr (fun u i => (ets A S p).1 u (cl i)) (cntS S p) (5 - cntS S p) (cntS S p) with | none => nI 5 | some x => nI x) σ := by
        show m_clears_117_H5 (m_clears_117_L5 m) _ _ _ _ σ = _
        unfold m_clears_117_H5
        rw [if_neg (nI_ge (by omega) (by omega)), mc_find (T := fun u i => (ets A S p).1 u (cl i)) hw9 (by omega) hT (5 - cntS S p) fu (cntS S p) (by omega) (fu_lt (by omega))]
      have hef : ∀ (d r : Nat), efr (fun u i => (ets A S p).1 u (cl i)) (cntS S p) d r = efr (ets A S p).1 p d r := by
        intro d
        induction d with
        | zero => intro r; rfl
        | succ d ih =>
          intro r
          unfold efr
          rw [hcc, ih]
      rw [st, hef]
      have hstep := ets_step (A := A) (set := S) (c := p)
      rw [hr] at hstep
      cases hf : efr (ets A S p).1 p (5 - cntS S p) (cntS S p) with
      | none =>
        rw [hf] at hstep
        rcases hstep with ⟨_, _, r, hx⟩ | ⟨h1, h2, _⟩
        · cases hx
        · have hne : (ets A S q).2.2.1 ≠ S := by
            intro e
            have := ets_bit (A := A) (set := S) (c := p + 1) (x := p) (by omega) d
            rw [show p + 1 + d = q by omega, e, hs, h1] at this
            cases this
          refine ⟨fun e => absurd e hne, fun _ => ⟨σ, ?_, FR_refl _ _⟩⟩
          unfold m_clears_117_b45
          rw [if_neg (by decide)]
      | some x =>
        rw [hf] at hstep
        rcases hstep with ⟨h1, _, _⟩ | ⟨_, _, h3⟩
        · obtain ⟨g1, g2, g3⟩ := efr_some hf
          have hk5 : cntS S p < 5 := by omega
          obtain ⟨τ1, x1, x2, x3⟩ := mc_sw hw9 hk5 (show x < 5 by omega) σ hT
          obtain ⟨τ2, y1, y2, y3⟩ := mc_rows (k5 := m_clears_117_L5 m) (v1 := nI (cntS S q)) hw9 hk5 (show cntS S p < w by omega) (hsc p (by omega)) τ1 x3
          have hpv : esw (fun u i => (ets A S p).1 u (cl i)) x (cntS S p) (cntS S p) (cntS S p) = esw (ets A S p).1 x (cntS S p) (cntS S p) p := by
            unfold esw; simp only [hcc]
          have hnew : ets A S (p + 1) = (ecl (esw (ets A S p).1 x (cntS S p)) (cntS S p) p (ets A S p).2.2.2.2, cntS S p + 1, (ets A S p).2.2.1 + 2 ^ p, (fun j => if j = p then cntS S p else (ets A S p).2.2.2.1 j), esw (ets A S p).1 x (cntS S p) (cntS S p) p) := by
            show est1 S p (ets A S p) = _
            unfold est1; rw [if_pos hs, hr, hf]
          have go : m_clears_117_b45 (m_clears_117_L5 m) (nI (cntS S q)) (nI w) (ets A S p).2.2.2.2 (nI (cntS S p)) (nI x) σ = m_clears_117_L5 m (nI (cntS S q)) (nI w) (ets A S (p + 1)).2.2.2.2 (nI (cntS S (p + 1))) τ2 := by
            unfold m_clears_117_b45
            rw [if_pos (show nI x < 5 from nI_lt (b := 5) (by omega) (by decide)), x1, bd_s, ix9, in9 hk5 (by omega), gd_t, cl_n (by omega), x3 _ _ hk5 (by omega), y1, hnew, cnt_t hs, hpv]
          have ih := mc_main (cl := cl) hq hS hw hw9 hcl hsc d m (p + 1) τ2 (by omega) (by omega) (by
            intro y hy
            by_cases ey : y = p
            · subst ey; rw [h1, hs]
            · rw [ets_bit_s (by omega)]; exact hb y (by omega)) (by rw [hnew, cnt_t hs]) (by
            intro u i hu hi
            rw [y3 u i hu hi, hnew]
            unfold ecl
            dsimp only
            unfold esw
            simp only [hcc])
          dsimp only
          rw [go]
          refine ⟨fun e => ?_, fun e => ?_⟩
          · obtain ⟨σ', z1, z2, z3⟩ := ih.1 e
            exact ⟨σ', z1, FR_trans (FR_trans x2 y2) z2, z3⟩
          · obtain ⟨σ', z1, z2⟩ := ih.2 e
            exact ⟨σ', z1, FR_trans (FR_trans x2 y2) z2⟩
        · cases h3 hs
    · have hsame : ets A S (p + 1) = ets A S p := by
        show est1 S p (ets A S p) = _
        unfold est1; rw [if_neg hs]
      have ih := mc_main (cl := cl) hq hS hw hw9 hcl hsc d (m + 1) (p + 1) σ (by omega) (by omega) (by
        intro y hy
        rw [hsame]
        by_cases ey : y = p
        · subst ey
          rw [Nat.testBit_lt_two_pow (ets_lt A S y)]
          simp at hs; rw [hs]
        · exact hb y (by omega)) (by rw [hsame, hr, cnt_f hs]) (by rw [hsame]; exact hT)
      rw [hsame, cnt_f hs] at ih
      exact ih
