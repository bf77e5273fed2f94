/-! ===== PURE: lays, lots ===== -/
theorem mlays_l {l i q : Nat} {σ : Sg} (hl : l < 3) (hq : q ≤ 8) (hi : i + q ≤ 40) (h0 : σ.1 118 0 = nI q) : ∃ σ', m_lays3_117_L78 fu (nI l) (nI i) 0 σ = some (nI q, σ') ∧ FR [127] σ σ' ∧ ∀ j, j < 120 → σ'.1 127 j = if 40 * l + i ≤ j ∧ j < 40 * l + i + q then (σ.2 124 (j - (40 * l + i))).toInt32 else σ.1 127 j := by
  refine loopE (L := fun k p s => m_lays3_117_L78 k (nI l) (nI i) (nI p) s) (N := q) (P := fun p τ => FR [127] σ τ ∧ ∀ j, j < 120 → τ.1 127 j = if 40 * l + i ≤ j ∧ j < 40 * l + i + p then (σ.2 124 (j - (40 * l + i))).toInt32 else σ.1 127 j) (Q := fun r => ∃ σ', r = some (nI q, σ') ∧ FR [127] σ σ' ∧ ∀ j, j < 120 → σ'.1 127 j = if 40 * l + i ≤ j ∧ j < 40 * l + i + q then (σ.2 124 (j - (40 * l + i))).toInt32 else σ.1 127 j) ?_ ?_ (fu_lt (by omega)) ⟨FR_refl _ _, fun j _ => (if_neg (by omega)).symm⟩
  · rintro k p τ hp ⟨f, g⟩
    refine ⟨si τ 127 (40 * l + i + p) (σ.2 124 p).toInt32, ?_, FR_si f (by decide), ?_⟩
    · show m_lays3_117_H78 (m_lays3_117_L78 k) (nI l) (nI i) (nI p) τ = _
      unfold m_lays3_117_H78
      rw [FR_i f (by decide), h0, if_neg (nI_ge hp (by omega)), i40, nI_add, inB_t (by omega) (by omega), inB_t (by omega) (by omega), gd_t, gd_t, cl_n (by omega), cl_n (by omega), FR_l f (by decide), nI_1]
    · intro j hj
      by_cases e : j = 40 * l + i + p
      · subst e
        rw [si_e, if_pos (by omega), show 40 * l + i + p - (40 * l + i) = p by omega]
      · rw [si_j e, g j hj]
        by_cases e2 : 40 * l + i ≤ j ∧ j < 40 * l + i + p
        · rw [if_pos e2, if_pos (by omega)]
        · rw [if_neg e2, if_neg (by omega)]
  · rintro k τ ⟨f, g⟩
    refine ⟨τ, ?_, f, g⟩
    show m_lays3_117_H78 (m_lays3_117_L78 k) (nI l) (nI i) (nI q) τ = _
    unfold m_lays3_117_H78
    rw [FR_i f (by decide), h0, if_pos (nI_le (by omega) (by omega))]
theorem sub_int {s q : Nat} (hs : s ≤ 40) (hq : q ≤ 8) : (nI s - nI q).toInt = (s : Int) - (q : Int) := by
  rw [Int32.toInt_sub, nI_toInt (by omega), nI_toInt (by omega)]; exact bm32 (by omega) (by omega)
theorem op_lays {n q ver : Nat} {σ : Sg} (hn : n < 512) (h : VV n q ver σ) (a b c : Int32) : ∃ r σ1 σ2, j_lays_0 a b c σ = some (r, σ1) ∧ m_lays3_117 a b c σ1 = some (r, σ2) ∧ VI (n + 1) σ2 := by
  have hq := vq h
  have hc := cnt_le (LZ σ q) q
  have h1 := (v_118 h).2.1
  unfold j_lays_0 j_lays_0_b15 j_lays_0_b54 m_lays3_117 m_lays3_117_b19 m_lays3_117_b62
  rcases in_out c (q := cntS (LZ σ q) q) (by omega) with o2 | ⟨i, hi, rfl⟩
  · obtain ⟨τ, w1, w2⟩ := own_out (τ := rj 1 σ) h rj_118 o2
    rcases in_out a (q := 3) (by decide) with o | ⟨l, hl, rfl⟩
    · refine ⟨-1, rj 1 σ, rm 1 τ, ?_, ?_, fin_ref hn (by omega) (by omega) h (Kp_refl _) (Kp_S w2 (by decide))⟩
      · rw [jli_out o, bd_s, if_pos rfl, jr1, bd_s]
      · rw [w1, bd_s, mli_out o, bd_s, if_pos rfl, mr1, bd_s]
    · refine ⟨-1, rj 1 σ, rm 1 τ, ?_, ?_, fin_ref hn (by omega) (by omega) h (Kp_refl _) (Kp_S w2 (by decide))⟩
      · rw [jli_in hl, bd_s, if_neg (by decide), jgr_out h o2, bd_s, if_pos rfl, jr1, bd_s]
      · rw [w1, bd_s, mli_in hl, bd_s, if_neg (by decide), if_neg (by decide), mr1, bd_s]
  · obtain ⟨x, hx, hxq, hxP⟩ := own_ex h hi
    have hx0 : (0 : Int32) ≤ nI x := nI_pos' (by omega)
    rcases in_out a (q := 3) (by decide) with o | ⟨l, hl, rfl⟩
    · obtain ⟨τ, w1, w2⟩ := own_in (τ := rj 1 σ) h rj_118 hx hi
      refine ⟨-1, rj 1 σ, rm 1 τ, ?_, ?_, fin_ref hn (by omega) (by omega) h (Kp_refl _) (Kp_S w2 (by decide))⟩
      · rw [jli_out o, bd_s, if_pos rfl, jr1, bd_s]
      · rw [w1, bd_s, mli_out o, bd_s, if_pos rfl, mr1, bd_s]
    · obtain ⟨τ, w1, w2⟩ := own_in (τ := σ) h rfl hx hi
      have kτ : Kp σ τ := Kp_S w2 (by decide)
      rcases list_cases h hl with ⟨e1, e2⟩ | ⟨s, hs, e1, e2⟩
      · refine ⟨-11, σ, τ, ?_, ?_, fin_kp hn h kτ⟩
        · rw [jli_in hl, bd_s, if_neg (by decide), jgr_in h hi, bd_s, if_neg (by decide), jmi_no hl e1, bd_s, if_neg (by decide)]
        · rw [w1, bd_s, mli_in hl, bd_s, if_neg (by decide), if_pos hx0, inB_t hl (by omega), gd_t, cl_n (by omega), K126 kτ, e2, if_neg (by decide), mr11, bd_s]
      · have e2τ : τ.1 126 l = nI s := by rw [K126 kτ]; exact e2
        by_cases b0 : b < 0
        · refine ⟨-13, σ, τ, ?_, ?_, fin_kp hn h kτ⟩
          · rw [jli_in hl, bd_s, if_neg (by decide), jgr_in h hi, bd_s, if_neg (by decide), jmi hl hs e1, bd_s, if_pos rfl, if_pos b0]
          · rw [w1, bd_s, mli_in hl, bd_s, if_neg (by decide), if_pos hx0, inB_t hl (by omega), gd_t, if_pos (m_126 hl hs e2τ), if_pos b0, mr13, bd_s]
        · have b0' : 0 ≤ b.toInt := Int.not_lt.mp (fun w => b0 ((lt_l (b := 0) (by omega)).mpr w))
          have hrb := I_rng b
          have hsb : (nI s - b).toInt = (s : Int) - b.toInt := by
            rw [Int32.toInt_sub, nI_toInt (by omega)]; exact bm32 (by omega) (by omega)
          have hiff : b ≤ nI s - nI q ↔ b.toInt + q ≤ s := by
            rw [Int32.le_iff_toInt_le, sub_int hs hq]; omega
          have hiff2 : nI q ≤ nI s - b ↔ b.toInt + q ≤ s := by
            rw [ge_l (by omega), hsb]; omega
          by_cases g : b.toInt + q ≤ s
          · obtain ⟨p, hp, rfl⟩ : ∃ p : Nat, p + q ≤ s ∧ b = nI p := ⟨b.toInt.toNat, by omega, of_t (by omega) (by omega)⟩
            obtain ⟨σ2, y1, y2, y3, y4⟩ := jrel_62_113 hq (vEQ h _) (vEL h) hxq hxP
            have k2 : Kp σ σ2 := Kp_S y2 (by decide)
            have hcp : cpB 113 (108 + 1 + l) 0 (nI p) (nI q) = true := by
              unfold cpB
              rw [(ckT_lis l hl).1, (ckT_lis l hl).2, show ck 113 = 0 by decide +kernel, show al 113 = 8 by decide +kernel, cl_n (by omega), cl_n (by omega)]
              have t1 : decide (nI p < 0) = false := decide_eq_false (nI_pos (by omega))
              have t2 : decide (nI q < 0) = false := decide_eq_false (nI_pos (by omega))
              rw [t1, t2]
              simp [cl0]
              exact ⟨by omega, by omega⟩
            generalize hσ3 : scp σ2 113 (108 + 1 + l) 0 p q = σ3
            have h3 : σ3 = scp σ2 113 (108 + 1 + l) 0 p q := hσ3.symm
            have f3 : FR [79, 113, 123, 124, 109, 110, 111, 112, 126, 127] σ σ3 := by
              rw [h3]; exact FR_sc (FR_mono (by decide) y2) (lis_S l hl)
            have e3 : ∀ c, c ≠ 113 → c ≠ 108 + 1 + l → σ3.1 c = σ.1 c := by
              intro c' c1 c2
              rw [h3, sc_c c2]; exact FR_i y2 (FR_1 c1)
            have h118 : σ3.1 118 = σ.1 118 := e3 118 (by omega) (by omega)
            obtain ⟨σ4, x1, x2⟩ := own_in (τ := σ3) h h118 hx hi
            have h118' : σ4.1 118 = σ.1 118 := by rw [FR_i x2 (by decide)]; exact h118
            obtain ⟨σ5, z1, z2, z3⟩ := grp_ok (τ := σ4) h h118' hxq hxP
            have h118'' : σ5.1 118 = σ.1 118 := by rw [FR_i z2 (by decide)]; exact h118'
            obtain ⟨σ6, u1, u2, u3⟩ := mlays_l (σ := σ5) (i := p) (q := q) hl hq (by omega) (by rw [h118'']; exact v0 h)
            have hF : FR [79, 113, 123, 124, 109, 110, 111, 112, 126, 127] σ σ6 := FR_trans (FR_trans (FR_trans f3 (FR_mono (by decide) x2)) (FR_mono (by decide) z2)) (FR_mono (by decide) u2)
            have eq2 : σ4.1 126 l = nI s := by rw [FR_i x2 (by decide), e3 126 (by omega) (by omega)]; exact e2
            refine ⟨nI q, σ3, σ6, ?_, ?_, q, ver, VV_up hn (VV_lists h hF ?_)⟩
            · rw [jli_in hl, bd_s, if_neg (by decide), jgr_in h hi, bd_s, if_neg (by decide), jmi hl hs e1, bd_s, if_pos rfl, if_neg b0, inB_t hl (by omega), gd_t, cl_n (by omega), e1, h1, if_pos (hiff.mpr (by rw [nI_toInt (by omega)]; omega)), jla (vSP h) hq hx (by omega), bd_s, y1, bd_s, gd_t, K1 k2, h1, hcp, gd_t, cl_n (by omega), cl_n (by omega)]
              rw [hσ3, e3 1 (by omega) (by omega), h1]
            · rw [x1, bd_s, mli_in hl, bd_s, if_neg (by decide), if_pos hx0, inB_t hl (by omega), gd_t, if_pos (m_126 hl hs eq2), if_neg b0, gd_t, cl_n (by omega), eq2, h118', v0 h, if_pos (hiff2.mpr (by rw [nI_toInt (by omega)]; omega)), z1, bd_s, u1]
            · intro m hm
              have hL := h.2.2.2.2.2.2.1 m hm
              have d112 : σ6.1 112 m = σ.1 112 m := by
                rw [FR_i u2 (by decide), FR_i z2 (by decide), FR_i x2 (by decide), e3 112 (by omega) (by omega)]
              have d126 : σ6.1 126 m = σ.1 126 m := by
                rw [FR_i u2 (by decide), FR_i z2 (by decide), FR_i x2 (by decide), e3 126 (by omega) (by omega)]
              refine ⟨by rw [d112, d126]; exact hL.1, ?_⟩
              intro j hj
              have e127 : σ5.1 127 = σ.1 127 := by
                rw [FR_i z2 (by decide), FR_i x2 (by decide), e3 127 (by omega) (by omega)]
              have elis : ∀ m', m' < 3 → σ6.1 (108 + 1 + m') = σ3.1 (108 + 1 + m') := by
                intro m' hm'
                rw [FR_i u2 (FR_1 (by omega)), FR_i z2 (by
                  have : ∀ m, m < 3 → ([123, 124] : List Nat).contains (108 + 1 + m) = false := by decide
                  exact this m' hm'), FR_i x2 (by
                  have : ∀ m, m < 3 → ([123, 124] : List Nat).contains (108 + 1 + m) = false := by decide
                  exact this m' hm')]
              rw [u3 _ (by omega), e127, elis m hm]
              by_cases e : m = l
              · subst e
                by_cases g2 : p ≤ j ∧ j < p + q
                · rw [if_pos (by omega), h3, sc_i (by omega) (by omega), show 0 + (j - p) = j - p by omega, show 40 * m + j - (40 * m + p) = j - p by omega]
                  have hz := z3 (j - p) (by omega)
                  exact (eq32 (y3 (j - p) (by omega)) hz (rl_le (vEQ h _) hxq (by omega))).symm
                · rw [if_neg (by omega), h3, sc_o (by omega), FR_i y2 (FR_1 (by omega))]
                  exact hL.2 j hj
              · rw [if_neg (by omega), e3 _ (by omega) (by omega)]
                exact hL.2 j hj
          · refine ⟨-13, σ, τ, ?_, ?_, fin_kp hn h kτ⟩
            · rw [jli_in hl, bd_s, if_neg (by decide), jgr_in h hi, bd_s, if_neg (by decide), jmi hl hs e1, bd_s, if_pos rfl, if_neg b0, inB_t hl (by omega), gd_t, cl_n (by omega), e1, h1, if_neg (fun w => g (hiff.mp w))]
            · rw [w1, bd_s, mli_in hl, bd_s, if_neg (by decide), if_pos hx0, inB_t hl (by omega), gd_t, if_pos (m_126 hl hs e2τ), if_neg b0, gd_t, cl_n (by omega), e2τ, K118 kτ, v0 h, if_neg (fun w => g (hiff2.mp w)), mr13, bd_s]
