/-! ===== PURE: the class's relation: object 71 into 113 ===== -/
theorem jrel_gcd_71_113 {q x : Nat} {s : ET} {σ : Sg} (hq : q ≤ 8) (hs : EQ q s) (hE : EL 71 72 78 q s σ) (hx : x < q) : ∃ by' : Int64, j_relation_71_113_L13 fu (nI x) (σ.2 71 5) 0 σ = j_relation_71_113_b88 (nI x) by' σ ∧ by'.toInt = rd (tz s) x := by
  obtain ⟨h1, h2, h3, h4, h5, h6, h7, h8⟩ := hs
  obtain ⟨e1, e2, e3, e4, e5, e6⟩ := hE
  have hP8 : s.2.2.1 < 256 := by have := pw_256 hq; omega
  refine loopE (L := fun k p v => j_relation_71_113_L13 k (nI x) v (nI p) σ) (N := q) (P := fun p v => v.toInt.natAbs = gch s.2.2.2.2.toInt (fun r => (s.1 r x).toInt) (cntS s.2.2.1 p)) (Q := fun r => ∃ by' : Int64, r = j_relation_71_113_b88 (nI x) by' σ ∧ by'.toInt = rd (tz s) x) ?_ ?_ (fu_lt (by omega)) (by rw [e4]; rfl)
  · rintro k p v hp g
    have hd : gch s.2.2.2.2.toInt (fun r => (s.1 r x).toInt) (cntS s.2.2.1 p) ≤ s.2.2.2.2.toInt.natAbs := Nat.le_of_dvd (by omega) (gch_s _ _ _)
    have hv : -9223372036854775808 < v.toInt := by omega
    by_cases hb : s.2.2.1.testBit p = true
    · have hc := cnt_lt hb hp
      have hr : s.2.2.2.1 p = cntS s.2.2.1 p := h6 p hp hb
      have hc5 : cntS s.2.2.1 p < 5 := by omega
      have hvx := h3 (cntS s.2.2.1 p) x hc5 hx
      refine ⟨gcL v (s.1 (cntS s.2.2.1 p) x), ?_, ?_⟩
      · show j_relation_71_113_H13 (j_relation_71_113_L13 k) (nI x) v (nI p) σ = _
        unfold j_relation_71_113_H13 j_relation_71_113_b54
        rw [e1, if_neg (nI_ge hp (by omega)), e3, j_bit_eq hP8 (by omega), bd_s, hb, if_pos rfl, if_pos rfl, inB_t (by omega) (by omega), gd_t, cl_n (by omega), e6 p hp hb, hr, inB_t (by omega) (by omega), gd_t, cl_n (by omega), ar_cho hc5 (by omega), gd_t, cl_n (by omega), e5 _ _ hc5 hx, jgd_eq, bd_s, nI_1]
      · have hg := gcL_toInt (x := v) (y := s.1 (cntS s.2.2.1 p) x) rfl rfl hv (by omega)
        rw [cnt_t hb]
        show _ = Nat.gcd (gch _ _ (cntS s.2.2.1 p)) _
        rw [← g, hg]
        show ((Nat.gcd v.toInt.natAbs _ : Nat) : Int).natAbs = _
        simp
    · refine ⟨v, ?_, by rw [cnt_f hb]; exact g⟩
      show j_relation_71_113_H13 (j_relation_71_113_L13 k) (nI x) v (nI p) σ = _
      unfold j_relation_71_113_H13 j_relation_71_113_b54
      rw [e1, if_neg (nI_ge hp (by omega)), e3, j_bit_eq hP8 (by omega), bd_s, if_neg hb, if_neg (by decide), nI_1]
  · rintro k v g
    rw [← h5] at g
    have hpos := gch_pos h1 (fun r => (s.1 r x).toInt) s.2.1
    have hd : gch s.2.2.2.2.toInt (fun r => (s.1 r x).toInt) s.2.1 ≤ s.2.2.2.2.toInt.natAbs := Nat.le_of_dvd (by omega) (gch_s _ _ _)
    have hl : (labs v).toInt = (v.toInt.natAbs : Int) := L_abs rfl (by omega)
    refine ⟨if 0 ≤ lg_cmp (σ.2 71 5) 0 then labs v else -(labs v), ?_, ?_⟩
    · show j_relation_71_113_H13 (j_relation_71_113_L13 k) (nI x) v (nI q) σ = _
      unfold j_relation_71_113_H13
      have hv0 : ¬ lg_cmp v 0 = 0 := by
        intro e
        have := cmp_eq.mp e
        rw [this, L_0] at g
        simp at g; omega
      rw [e1, if_pos (nI_le (by omega) (by omega)), if_neg hv0]
      split <;> rfl
    · have hc : (0 ≤ lg_cmp (σ.2 71 5) 0) ↔ 0 ≤ s.2.2.2.2.toInt := by
        have h2 : (lg_cmp (σ.2 71 5) 0 < 0) ↔ s.2.2.2.2.toInt < 0 := by
          rw [cmp_lt, Int64.lt_iff_toInt_lt, e4, L_0]
        constructor
        · intro h; exact Int.not_lt.mp (fun w => absurd (h2.mpr w) (Int32.not_lt.mpr h))
        · intro h; exact Int32.not_lt.mp (fun w => absurd (h2.mp w) (by omega))
      show _ = sgd s.2.2.2.2.toInt (gch s.2.2.2.2.toInt (fun r => (s.1 r x).toInt) s.2.1)
      unfold sgd
      by_cases h : 0 ≤ s.2.2.2.2.toInt
      · rw [if_pos (hc.mpr h), if_pos h, hl, g]
      · rw [if_neg (fun w => h (hc.mp w)), if_neg h, L_neg hl (by omega), g]
theorem jrel_71_113 {q x : Nat} {s : ET} {σ : Sg} (hq : q ≤ 8) (hs : EQ q s) (hE : EL 71 72 78 q s σ) (hx : x < q) (hn : ¬ s.2.2.1.testBit x = true) : ∃ σ', j_relation_71_113 (nI x) σ = some ((), σ') ∧ FR [113] σ σ' ∧ (∀ p, p < q → (σ'.1 113 p).toInt = rl (tz s) x p) ∧ ∀ p, q ≤ p → p < 8 → σ'.1 113 p = 0 := by
  obtain ⟨σ1, w1, w2, w3⟩ := jfill_62_113 σ
  have hE1 : EL 71 72 78 q s σ1 := EL_fr hE (FR_i w2 (by decide)) (FR_l w2 (by decide)) (fun r hr => FR_l w2 (by rcases lt5 hr with rfl | rfl | rfl | rfl | rfl <;> decide)) (FR_i w2 (by decide))
  obtain ⟨by', y1, y2⟩ := jrel_gcd_71_113 hq hs hE1 hx
  have hs' := hs
  obtain ⟨h1, h2, h3, h4, h5, h6, h7, h8⟩ := hs
  obtain ⟨e1, e2, e3, e4, e5, e6⟩ := hE1
  have hP8 : s.2.2.1 < 256 := by have := pw_256 hq; omega
  have hne : neBL by' = true := by
    have : by' ≠ 0 := by
      intro e
      rw [e] at y2
      exact sgd_nz (gch_pos h1 _ _) y2.symm
    simp [neBL, this]
  have hbeg : j_relation_71_113 (nI x) σ = j_relation_71_113_L102 fu (nI x) by' 0 (si σ1 113 x ((s.2.2.2.2 / by').toInt32)) := by
    unfold j_relation_71_113
    rw [w1, bd_s, y1]
    unfold j_relation_71_113_b88
    rw [hne, inB_t (by omega) (by omega), gd_t, gd_t, cl_n (by omega), e4]
  have hxv : ((s.2.2.2.2 / by').toInt32).toInt = rl (tz s) x x := by
    have hle := rl_le hs' hx hx
    rw [rl_x] at hle ⊢
    have hd : (s.2.2.2.2 / by').toInt = s.2.2.2.2.toInt.tdiv (rd (tz s) x) := L_div rfl y2 (by omega)
    exact t32 hd hle
  rw [hbeg]
  refine loopE (L := fun k p τ => j_relation_71_113_L102 k (nI x) by' (nI p) τ) (N := q) (P := fun p τ => FR [113] σ τ ∧ (∀ c, c ≠ 113 → τ.1 c = σ1.1 c) ∧ τ.2 = σ1.2 ∧ ∀ j, j < 8 → (τ.1 113 j).toInt = if j = x then rl (tz s) x x else if j < p then rl (tz s) x j else 0) (Q := fun r => ∃ σ', r = some ((), σ') ∧ FR [113] σ σ' ∧ (∀ p, p < q → (σ'.1 113 p).toInt = rl (tz s) x p) ∧ ∀ p, q ≤ p → p < 8 → σ'.1 113 p = 0) ?_ ?_ (fu_lt (by omega)) ⟨FR_si w2 (by decide), fun c hc => si_c hc, rfl, ?_⟩
  · rintro k p τ hp ⟨f, g1, g2, g3⟩
    have i1 : τ.1 71 2 = nI q := by rw [g1 71 (by decide)]; exact e1
    have i3 : τ.1 71 4 = nI s.2.2.1 := by rw [g1 71 (by decide)]; exact e3
    by_cases hb : s.2.2.1.testBit p = true
    · have hc := cnt_lt hb hp
      have hr : s.2.2.2.1 p = cntS s.2.2.1 p := h6 p hp hb
      have hc5 : cntS s.2.2.1 p < 5 := by omega
      have hvx := h3 (cntS s.2.2.1 p) x hc5 hx
      have hpx : p ≠ x := fun e => hn (e ▸ hb)
      have i6 : τ.1 78 p = nI (cntS s.2.2.1 p) := by rw [g1 78 (by decide), e6 p hp hb, hr]
      have i5 : τ.2 (72 + 1 + cntS s.2.2.1 p) x = s.1 (cntS s.2.2.1 p) x := by rw [g2]; exact e5 _ _ hc5 hx
      have hval : (((-(s.1 (cntS s.2.2.1 p) x)) / by').toInt32).toInt = rl (tz s) x p := by
        have hle := rl_le hs' hx hp
        have hrp := rl_p (t := tz s) hpx hb
        have hrow : (tz s).2.2.2.1 p = cntS s.2.2.1 p := hr
        rw [hrow] at hrp
        rw [hrp] at hle ⊢
        have hg : (-(s.1 (cntS s.2.2.1 p) x)).toInt = -(s.1 (cntS s.2.2.1 p) x).toInt := L_neg rfl (by omega)
        have hd : ((-(s.1 (cntS s.2.2.1 p) x)) / by').toInt = (-(s.1 (cntS s.2.2.1 p) x).toInt).tdiv (rd (tz s) x) := L_div hg y2 (by omega)
        exact t32 hd hle
      refine ⟨si τ 113 p (((-(s.1 (cntS s.2.2.1 p) x)) / by').toInt32), ?_, FR_si f (by decide), fun c hc => (si_c hc).trans (g1 c hc), g2, ?_⟩
      · show j_relation_71_113_H102 (j_relation_71_113_L102 k) (nI x) by' (nI p) τ = _
        unfold j_relation_71_113_H102 j_relation_71_113_b146
        rw [i1, if_neg (nI_ge hp (by omega)), i3, j_bit_eq hP8 (by omega), bd_s, hb, if_pos rfl, if_pos rfl, inB_t (by omega) (by omega), gd_t, cl_n (by omega), i6, inB_t (by omega) (by omega), gd_t, cl_n (by omega), ar_cho hc5 (by omega), gd_t, hne, gd_t, gd_t, cl_n (by omega), i5, nI_1]
      · intro j hj
        by_cases e : j = p
        · subst e; rw [si_e, hval, if_neg hpx, if_pos (by omega)]
        · rw [si_j e, g3 j hj]
          by_cases e2 : j = x
          · rw [if_pos e2, if_pos e2]
          · rw [if_neg e2, if_neg e2]
            by_cases e4 : j < p
            · rw [if_pos e4, if_pos (by omega)]
            · rw [if_neg e4, if_neg (by omega)]
    · refine ⟨τ, ?_, f, g1, g2, ?_⟩
      · show j_relation_71_113_H102 (j_relation_71_113_L102 k) (nI x) by' (nI p) τ = _
        unfold j_relation_71_113_H102 j_relation_71_113_b146
        rw [i1, if_neg (nI_ge hp (by omega)), i3, j_bit_eq hP8 (by omega), bd_s, if_neg hb, if_neg (by decide), nI_1]
      · intro j hj
        rw [g3 j hj]
        by_cases e2 : j = x
        · rw [if_pos e2, if_pos e2]
        · rw [if_neg e2, if_neg e2]
          by_cases e4 : j < p
          · rw [if_pos e4, if_pos (by omega)]
          · by_cases e5 : j = p
            · subst e5; rw [if_neg e4, if_pos (by omega), rl_0 e2 hb]
            · rw [if_neg e4, if_neg (by omega)]
  · rintro k τ ⟨f, g1, g2, g3⟩
    have i1 : τ.1 71 2 = nI q := by rw [g1 71 (by decide)]; exact e1
    refine ⟨τ, ?_, f, ?_, ?_⟩
    · show j_relation_71_113_H102 (j_relation_71_113_L102 k) (nI x) by' (nI q) τ = _
      unfold j_relation_71_113_H102
      rw [i1, if_pos (nI_le (by omega) (by omega))]
    · intro p hp
      rw [g3 p (by omega)]
      by_cases e : p = x
      · rw [if_pos e, e]
      · rw [if_neg e, if_pos hp]
    · intro p h1 h2
      have := g3 p h2
      rw [if_neg (by omega), if_neg (by omega)] at this
      exact Int32.toInt_inj.mp this
  · intro j hj
    by_cases e : j = x
    · subst e; rw [si_e, if_pos rfl]; exact hxv
    · rw [si_j e, w3 j hj, if_neg e, if_neg (by omega)]; rfl
