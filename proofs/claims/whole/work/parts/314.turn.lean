/-! ===== PURE: turn, scale ===== -/
theorem op_turn {n q ver : Nat} {σ : Sg} (hn : n < 512) (h : VV n q ver σ) (a b : Int32) : ∃ r σ1 σ2, j_turn_0 a b σ = some (r, σ1) ∧ m_turn_117 a b σ1 = some (r, σ2) ∧ VI (n + 1) σ2 := by
  have hq := vq h
  have h1 := (v_118 h).2.1
  unfold j_turn_0 m_turn_117
  rcases in_out a (q := q) (by omega) with o | ⟨k, hk, rfl⟩
  · refine ⟨-1, rj 1 σ, rm 1 (rj 1 σ), ?_, ?_, fin_ref hn (by omega) (by omega) h (Kp_refl _) (Kp_refl _)⟩
    · rw [jq_out h1 o, bd_s, if_pos rfl, jr1, bd_s]
    · rw [mq_out hq (by rw [rj_118]; exact v0 h) o, bd_s, if_pos rfl, mr1, bd_s]
  · rcases in_out b (q := 6) (by decide) with o | ⟨c, hc, rfl⟩
    · refine ⟨-2, rj 2 σ, rm 2 (rj 2 σ), ?_, ?_, fin_ref hn (by omega) (by omega) h (Kp_refl _) (Kp_refl _)⟩
      · rw [jq_in hq h1 hk, bd_s, if_neg (by decide), jki_out o, bd_s, if_pos rfl, jr2, bd_s]
      · rw [mq_in hq (by rw [rj_118]; exact v0 h) hk, bd_s, if_neg (by decide), mki_out o, bd_s, if_pos rfl, mr2, bd_s]
    · obtain ⟨hh, nx, hh20, hnx, r1, r2, r3, r4⟩ := h.2.2.2.2.2.2.2.2.1
      obtain ⟨m1, m2, m3, m4, m5, m6⟩ := vMR h
      obtain ⟨κ0, hκ0, k1, k2⟩ := m3 k hk
      have k1' : σ.1 2 k = nI κ0 := k1
      obtain ⟨σa, a1, a2, a3, a4⟩ := jnote (v0 := 1) (v1 := nI k) (v2 := nI κ0) (v3 := 0) hh20 hnx r1 r2
      generalize hσb : si σa 2 k (nI c) = σb
      have eb : ∀ x, x ≠ 29 → (x < 31 ∨ 50 < x) → x ≠ 2 → σb.1 x = σ.1 x := fun x x1 x2 x3 => by rw [← hσb, si_c x3]; exact a3 x x1 x2
      have ebk : ∀ k', σb.1 2 k' = if k' = k then nI c else σ.1 2 k' := by
        intro k'
        by_cases e : k' = k
        · subst e; rw [← hσb, si_e, if_pos rfl]
        · rw [← hσb, si_j e, a3 _ (by omega) (by omega), if_neg e]
      obtain ⟨σc, c1, c2, c3, c4⟩ := j_measC (σ := σb) hq (by rw [eb 1 (by omega) (by omega) (by omega)]; exact m1) (fun k' hk' => by
        rw [ebk]
        split
        · exact ⟨c, hc, rfl⟩
        · obtain ⟨κ, q1, q2, q3⟩ := m3 k' hk'
          exact ⟨κ, q1, q2⟩) (fun k' u' hk' hu' => by
        rw [eb _ (by omega) (by omega) (by omega)]
        have mm := m4 k' u' hk' hu'
        have e0 : σ.1 (3 + 1 + k') u' = σ.1 118 (9 + 5 * k' + u') := mm.1
        rw [e0]; exact mm.2)
      have ec : ∀ x, x ≤ 50 ∨ 70 ≤ x → σc.1 x = σb.1 x := fun x hx => FR_i c2 (FRM_no x hx)
      have e117 : σc.1 117 = σ.1 117 := by rw [ec 117 (by omega), eb 117 (by omega) (by omega) (by omega)]
      have e118 : σc.1 118 = σ.1 118 := by rw [ec 118 (by omega), eb 118 (by omega) (by omega) (by omega)]
      have e122 : σc.1 122 = σ.1 122 := by rw [ec 122 (by omega), eb 122 (by omega) (by omega) (by omega)]
      obtain ⟨σd, d1, d2, d3, d4, d5⟩ := mch (h := hh) (a := 1 + k) (o := -1) (σ := σc) hh20 (by omega) (Or.inl (by decide)) (by rw [e117]; exact r3)
      generalize hσe : si σd 118 (1 + k) (nI c) = σe
      have ee : ∀ x, x ≠ 118 → σe.1 x = σd.1 x := fun x hx => by rw [← hσe, si_c hx]
      have ee8 : ∀ j, j ≠ 1 + k → σe.1 118 j = σ.1 118 j := fun j hj => by rw [← hσe, si_j hj, d2 118 (by omega) (by omega), e118]
      have ee8' : σe.1 118 (1 + k) = nI c := by rw [← hσe, si_e]
      have eall : ∀ x, (x ≤ 28 ∨ 70 ≤ x) → x ≠ 117 → x ≠ 122 → x ≠ 118 → x ≠ 2 → σe.1 x = σ.1 x := by
        intro x x1 x2 x3 x4 x5
        rw [ee x x4, d2 x x2 x3, ec x (by omega), eb x (by omega) (by omega) x5]
      have etold : ∀ x, x ≤ 50 → σe.1 x = σb.1 x := fun x hx => by rw [ee x (by omega), d2 x (by omega) (by omega), ec x (by omega)]
      have hMR : MR 1 118 q σe := by
        refine ⟨by rw [eall 1 (by omega) (by omega) (by omega) (by omega) (by omega)]; exact m1, by rw [ee8 0 (by omega)]; exact m2, ?_, ?_, ?_, ?_⟩
        · intro k' hk'
          have e1 : σe.1 (1 + 1) k' = if k' = k then nI c else σ.1 2 k' := by rw [etold (1 + 1) (by omega)]; exact ebk k'
          by_cases e : k' = k
          · rw [e1, if_pos e, e, ee8']; exact ⟨c, hc, rfl, rfl⟩
          · rw [e1, if_neg e, ee8 _ (by omega)]; exact m3 k' hk'
        · intro k' u' hk' hu'
          rw [eall (1 + 2 + 1 + k') (by omega) (by omega) (by omega) (by omega) (by omega), ee8 _ (by omega)]; exact m4 k' u' hk' hu'
        · intro k' hk'
          rw [eall (1 + 11) (by omega) (by omega) (by omega) (by omega) (by omega), eall (1 + 12) (by omega) (by omega) (by omega) (by omega) (by omega), ee8 _ (by omega), ee8 _ (by omega)]; exact m5 k' hk'
        · exact FM_cg m6 (by rw [eall 1 (by omega) (by omega) (by omega) (by omega) (by omega)]) (by rw [eall 1 (by omega) (by omega) (by omega) (by omega) (by omega)]) (eall 14 (by omega) (by omega) (by omega) (by omega) (by omega)) (fun j hj => ee8 j (by omega))
      have hRP : RPu σ σe nx hh 1 (nI k) (nI κ0) 0 := RPu_tr hnx a2 (fun x x1 x2 => by rw [etold x x2, ← hσb, si_c (by omega)])
      have hSP : SPu σ σe hh (nI (1 + k)) (σc.1 118 (1 + k)) (-1) (if (-1 : Int32) < 0 then 0 else σc.1 118 (Int32.toNatClampNeg (-1))) := SPu_tr d5 e122 (ee 122 (by omega)) (by rw [ee 117 (by omega)])
      have hHE : HE q σe nx (min hh 19) := by
        refine ⟨k, hk, hRP.2.2.1, Or.inr (Or.inl ⟨hRP.2.1, κ0, hκ0, hRP.2.2.2.1, hSP.2.1, ?_, hSP.2.2.2.1⟩)⟩
        rw [hSP.2.2.1, e118]; exact k2
      refine ⟨nI κ0, σc, σe, ?_, ?_, q, ver + 1, VV_mk hn h hq ?_ ?_ ?_ hMR (HR_push hh20 hnx r4 hRP hSP hHE) ?_ ?_⟩
      · rw [jq_in hq h1 hk, bd_s, if_neg (by decide), jki_in hc, bd_s, if_neg (by decide), inB_t (by omega) (by omega), gd_t, cl_n (by omega), k1', a1, bd_s, gd_t, hσb, c1, bd_s]
      · rw [mq_in hq (by rw [e118]; exact m2) hk, bd_s, if_neg (by decide), mki_in hc, bd_s, if_neg (by decide), i1k, inB_t (by omega) (by omega), gd_t, d1, bd_s, gd_t, cl_n (by omega), hσe, e118, k2]
      · intro x hx
        unfold kc at hx
        exact eall x (by omega) (by omega) (by omega) (by omega) (by omega)
      · rw [ee 117 (by omega), d4 2 (by omega), e117]
      · rw [ee 117 (by omega), d4 5 (by omega), e117]
      · refine SP_end hq c3 ?_ (fun x x1 x2 => ⟨by rw [ee x (by omega), d2 x (by omega) (by omega)], by rw [← hσe, si_l, d3]⟩)
        intro k' u' hk' hu'
        unfold dm dmc
        obtain ⟨κ, q1, q2, q3⟩ := m3 k' hk'
        have q2' : σ.1 2 k' = nI κ := q2
        have mm : σ.1 (3 + 1 + k') u' = σ.1 118 (9 + 5 * k' + u') := (m4 k' u' hk' hu').1
        rw [ebk, eb (3 + 1 + k') (by omega) (by omega) (by omega), mm, ee8 (9 + 5 * k' + u') (by omega)]
        by_cases e : k' = k
        · rw [if_pos e, e, ee8']
        · rw [if_neg e, ee8 _ (by omega), q3, q2']
      · rw [ee 51 (by omega), d2 51 (by omega) (by omega), c4, eb 51 (by omega) (by omega) (by omega), h.2.2.2.2.2.2.2.2.2.2.1, nI_1]
/-- a scale set -/
theorem sc_set {n q ver k : Nat} {σ : Sg} {x y1 y2 : Int32} (hn : n < 512) (h : VV n q ver σ) (hk : k < q) (hSC : SC x y1 x y2) : ∃ σa σc, j_note_29 2 (nI k) (σ.1 12 k) (σ.1 13 k) σ = some ((), σa) ∧ m_changes_117 (nI (49 + k)) (nI (57 + k)) (si (si σa 12 k x) 13 k y1) = some ((), σc) ∧ (si (si σa 12 k x) 13 k y1).1 118 = σ.1 118 ∧ VI (n + 1) (si (si σc 118 (49 + k) x) 118 (57 + k) y2) := by
  have hq := vq h
  obtain ⟨hh, nx, hh20, hnx, r1, r2, r3, r4⟩ := h.2.2.2.2.2.2.2.2.1
  obtain ⟨m1, m2, m3, m4, m5, m6⟩ := vMR h
  obtain ⟨σa, a1, a2, a3, a4⟩ := jnote (v0 := 2) (v1 := nI k) (v2 := σ.1 12 k) (v3 := σ.1 13 k) hh20 hnx r1 r2
  generalize hσb : si (si σa 12 k x) 13 k y1 = σb
  have eb : ∀ z, z ≠ 29 → (z < 31 ∨ 50 < z) → z ≠ 12 → z ≠ 13 → σb.1 z = σ.1 z := fun z x1 x2 x3 x4 => by rw [← hσb, si_c x4, si_c x3]; exact a3 z x1 x2
  have e117 : σb.1 117 = σ.1 117 := eb 117 (by omega) (by omega) (by omega) (by omega)
  have e118 : σb.1 118 = σ.1 118 := eb 118 (by omega) (by omega) (by omega) (by omega)
  have e122 : σb.1 122 = σ.1 122 := eb 122 (by omega) (by omega) (by omega) (by omega)
  obtain ⟨σc, d1, d2, d3, d4, d5⟩ := mch (h := hh) (a := 49 + k) (o := nI (57 + k)) (σ := σb) hh20 (by omega) (Or.inr ⟨57 + k, by omega, rfl⟩) (by rw [e117]; exact r3)
  refine ⟨σa, σc, a1, by rw [hσb]; exact d1, by rw [hσb]; exact e118, q, ver, ?_⟩
  generalize hσe : si (si σc 118 (49 + k) x) 118 (57 + k) y2 = σe
  have ee : ∀ z, z ≠ 118 → σe.1 z = σc.1 z := fun z hz => by rw [← hσe, si_c hz, si_c hz]
  have ee8 : ∀ j, j ≠ 49 + k → j ≠ 57 + k → σe.1 118 j = σ.1 118 j := fun j hj hj2 => by rw [← hσe, si_j hj2, si_j hj, d2 118 (by omega) (by omega), e118]
  have eall : ∀ z, (z ≤ 28 ∨ 50 < z) → z ≠ 117 → z ≠ 122 → z ≠ 118 → z ≠ 12 → z ≠ 13 → σe.1 z = σ.1 z := by
    intro z x1 x2 x3 x4 x5 x6
    rw [ee z x4, d2 z x2 x3, eb z (by omega) (by omega) x5 x6]
  have e12 : ∀ k', σe.1 12 k' = if k' = k then x else σ.1 12 k' := by
    intro k'
    rw [ee 12 (by omega), d2 12 (by omega) (by omega), ← hσb, si_c (by omega)]
    by_cases e : k' = k
    · subst e; rw [si_e, if_pos rfl]
    · rw [si_j e, a3 _ (by omega) (by omega), if_neg e]
  have e13 : ∀ k', σe.1 13 k' = if k' = k then y1 else σ.1 13 k' := by
    intro k'
    rw [ee 13 (by omega), d2 13 (by omega) (by omega), ← hσb]
    by_cases e : k' = k
    · subst e; rw [si_e, if_pos rfl]
    · rw [si_j e, si_c (by omega), a3 _ (by omega) (by omega), if_neg e]
  have hMR : MR 1 118 q σe := by
    refine ⟨by rw [eall 1 (by omega) (by omega) (by omega) (by omega) (by omega) (by omega)]; exact m1, by rw [ee8 0 (by omega) (by omega)]; exact m2, ?_, ?_, ?_, ?_⟩
    · intro k' hk'
      rw [eall (1 + 1) (by omega) (by omega) (by omega) (by omega) (by omega) (by omega), ee8 _ (by omega) (by omega)]; exact m3 k' hk'
    · intro k' u' hk' hu'
      rw [eall (1 + 2 + 1 + k') (by omega) (by omega) (by omega) (by omega) (by omega) (by omega), ee8 _ (by omega) (by omega)]; exact m4 k' u' hk' hu'
    · intro k' hk'
      have f12 : σe.1 (1 + 11) k' = if k' = k then x else σ.1 12 k' := e12 k'
      have f13 : σe.1 (1 + 12) k' = if k' = k then y1 else σ.1 13 k' := e13 k'
      rw [f12, f13]
      by_cases e : k' = k
      · subst e
        rw [if_pos rfl, if_pos rfl, ← hσe, si_j (by omega), si_e, si_e]; exact hSC
      · rw [if_neg e, if_neg e, ee8 _ (by omega) (by omega), ee8 _ (by omega) (by omega)]; exact m5 k' hk'
    · exact FM_cg m6 (by rw [eall 1 (by omega) (by omega) (by omega) (by omega) (by omega) (by omega)]) (by rw [eall 1 (by omega) (by omega) (by omega) (by omega) (by omega) (by omega)]) (eall 14 (by omega) (by omega) (by omega) (by omega) (by omega) (by omega)) (fun j hj => ee8 j (by omega) (by omega))
  have hRP : RPu σ σe nx hh 2 (nI k) (σ.1 12 k) (σ.1 13 k) := RPu_tr hnx a2 (fun z x1 x2 => by rw [ee z (by omega), d2 z (by omega) (by omega), ← hσb, si_c (by omega), si_c (by omega)])
  have hSP := SPu_tr (σ := σ) (σe := σe) d5 e122 (ee 122 (by omega)) (by rw [ee 117 (by omega)])
  have hHE : HE q σe nx (min hh 19) := by
    refine ⟨k, hk, hRP.2.2.1, Or.inr (Or.inr ⟨hRP.2.1, ?_, hSP.2.1, hSP.2.2.2.1⟩)⟩
    rw [hRP.2.2.2.1, hRP.2.2.2.2.1, hSP.2.2.1, hSP.2.2.2.2.1, if_neg (nI_pos (by omega)), cl_n (by omega), e118]
    exact m5 k hk
  refine VV_mk0 hn h ?_ ?_ ?_ hMR (HR_push hh20 hnx r4 hRP hSP hHE) ?_ ?_
  · intro z hz
    unfold kc at hz
    exact eall z (by omega) (by omega) (by omega) (by omega) (by omega) (by omega)
  · rw [ee 117 (by omega), d4 2 (by omega), e117]
  · rw [ee 117 (by omega), d4 5 (by omega), e117]
  · intro k' u' hk' hu'
    unfold dm
    rw [ee8 (1 + k') (by omega) (by omega), ee8 (9 + 5 * k' + u') (by omega) (by omega)]
  · intro z x1 x2
    exact ⟨eall z (by omega) (by omega) (by omega) (by omega) (by omega) (by omega), by rw [← hσe, si_l, si_l, d3, ← hσb, si_l, si_l, a4]⟩
theorem op_scale {n q ver : Nat} {σ : Sg} (hn : n < 512) (h : VV n q ver σ) (a b c : Int32) : ∃ r σ1 σ2, j_scale_0 a b c σ = some (r, σ1) ∧ m_scale_117 a b c σ1 = some (r, σ2) ∧ VI (n + 1) σ2 := by
  have hq := vq h
  have h1 := (v_118 h).2.1
  unfold j_scale_0 m_scale_117
  rcases in_out a (q := q) (by omega) with o | ⟨k, hk, rfl⟩
  · refine ⟨-1, rj 1 σ, rm 1 (rj 1 σ), ?_, ?_, fin_ref hn (by omega) (by omega) h (Kp_refl _) (Kp_refl _)⟩
    · rw [jq_out h1 o, bd_s, if_pos rfl, jr1, bd_s]
    · rw [mq_out hq (by rw [rj_118]; exact v0 h) o, bd_s, if_pos rfl, mr1, bd_s]
  · have hb4 : ∀ τ, m_scale_117_b27 τ = some (-4, rm 4 τ) := fun τ => rfl
    have hj4 : ∀ τ, j_scale_0_b27 τ = some (-4, rj 4 τ) := fun τ => rfl
    have hb6 : ∀ τ, m_scale_117_b49 τ = some (-6, rm 6 τ) := fun τ => rfl
    have hj6 : ∀ τ, j_scale_0_b50 τ = some (-6, rj 6 τ) := fun τ => rfl
    have low : (b < 0 ∨ (¬ b < 0 ∧ ¬ b ≤ 0 ∧ ¬ 1 ≤ c)) → ∃ r σ1 σ2, (bd (j_isQuantity_0 (nI k) σ) fun r1 σ1 => if r1 = 0 then bd (j_refused_0 (-1) σ1) fun r5 σ5 => some (r5, σ5) else if b < 0 then j_scale_0_b27 σ1 else if b ≤ 0 then j_scale_0_b34 (nI k) b c σ1 else if 1 ≤ c then j_scale_0_b34 (nI k) b c σ1 else j_scale_0_b27 σ1) = some (r, σ1) ∧ (bd (m_isOne_117 (nI k) σ1) fun r1 σ1 => if r1 = 0 then bd (m_refuse_117 1 σ1) fun r5 σ5 => some (r5, σ5) else if b < 0 then m_scale_117_b27 σ1 else if b ≤ 0 then m_scale_117_b33 (nI k) b c σ1 else if 1 ≤ c then m_scale_117_b33 (nI k) b c σ1 else m_scale_117_b27 σ1) = some (r, σ2) ∧ VI (n + 1) σ2 := by
      intro hlo
      refine ⟨-4, rj 4 σ, rm 4 (rj 4 σ), ?_, ?_, fin_ref hn (by omega) (by omega) h (Kp_refl _) (Kp_refl _)⟩
      · rw [jq_in hq h1 hk, bd_s, if_neg (by decide)]
        rcases hlo with w | ⟨w1, w2, w3⟩
        · rw [if_pos w, hj4]
        · rw [if_neg w1, if_neg w2, if_neg w3, hj4]
      · rw [mq_in hq (by rw [rj_118]; exact v0 h) hk, bd_s, if_neg (by decide)]
        rcases hlo with w | ⟨w1, w2, w3⟩
        · rw [if_pos w, hb4]
        · rw [if_neg w1, if_neg w2, if_neg w3, hb4]
    by_cases g1 : b < 0
    · exact low (Or.inl g1)
    · by_cases g2 : b ≤ 0
      · have hb0 : b = 0 := by
          have w1 := Int32.le_iff_toInt_le.mp g2
          have w2 := Int32.le_iff_toInt_le.mp (Int32.not_lt.mp g1)
          exact Int32.toInt_inj.mp (by omega)
        subst hb0
        obtain ⟨σa, σc, s1, s2, s3, s4⟩ := sc_set (x := 0) (y1 := 1) (y2 := 0) hn h hk ⟨rfl, Or.inl rfl⟩
        refine ⟨1, si (si σa 12 k 0) 13 k 1, si (si σc 118 (49 + k) 0) 118 (57 + k) 0, ?_, ?_, s4⟩
        · rw [jq_in hq h1 hk, bd_s, if_neg (by decide), if_neg g1, if_pos g2]
          unfold j_scale_0_b34 j_scale_0_b57 j_scale_0_b111
          rw [if_neg (by decide), if_pos g2, inB_t (by omega) (by omega), gd_t, gd_t, cl_n (by omega), s1, bd_s, gd_t, if_pos rfl, gd_t]
        · rw [mq_in hq (by rw [s3]; exact v0 h) hk, bd_s, if_neg (by decide), if_neg g1, if_pos g2]
          unfold m_scale_117_b33 m_scale_117_b56 m_scale_117_b95
          rw [if_neg (by decide), if_pos g2, i49, i57, s2, bd_s, inB_t (by omega) (by omega), gd_t, if_pos rfl, inB_t (by omega) (by omega), gd_t, cl_n (by omega), cl_n (by omega)]
      · have hb1 : 1 ≤ b.toInt := by
          have w : ¬ b.toInt ≤ 0 := fun e => g2 (Int32.le_iff_toInt_le.mpr e)
          omega
        by_cases g3 : 1 ≤ c
        · have hc1 : 1 ≤ c.toInt := (ge_l (b := 1) (by omega)).mp g3
          have hi6 : (99 < b ∨ ¬ c ≤ 99) → ∃ r σ1 σ2, (bd (j_isQuantity_0 (nI k) σ) fun r1 σ1 => if r1 = 0 then bd (j_refused_0 (-1) σ1) fun r5 σ5 => some (r5, σ5) else if b < 0 then j_scale_0_b27 σ1 else if b ≤ 0 then j_scale_0_b34 (nI k) b c σ1 else if 1 ≤ c then j_scale_0_b34 (nI k) b c σ1 else j_scale_0_b27 σ1) = some (r, σ1) ∧ (bd (m_isOne_117 (nI k) σ1) fun r1 σ1 => if r1 = 0 then bd (m_refuse_117 1 σ1) fun r5 σ5 => some (r5, σ5) else if b < 0 then m_scale_117_b27 σ1 else if b ≤ 0 then m_scale_117_b33 (nI k) b c σ1 else if 1 ≤ c then m_scale_117_b33 (nI k) b c σ1 else m_scale_117_b27 σ1) = some (r, σ2) ∧ VI (n + 1) σ2 := by
            intro hlo
            refine ⟨-6, rj 6 σ, rm 6 (rj 6 σ), ?_, ?_, fin_ref hn (by omega) (by omega) h (Kp_refl _) (Kp_refl _)⟩
            · rw [jq_in hq h1 hk, bd_s, if_neg (by decide), if_neg g1, if_neg g2, if_pos g3]
              unfold j_scale_0_b34
              by_cases w : 99 < b
              · rw [if_pos w, hj6]
              · rw [if_neg w, if_neg g2, if_neg (hlo.resolve_left w), hj6]
            · rw [mq_in hq (by rw [rj_118]; exact v0 h) hk, bd_s, if_neg (by decide), if_neg g1, if_neg g2, if_pos g3]
              unfold m_scale_117_b33
              by_cases w : 99 < b
              · rw [if_pos w, hb6]
              · rw [if_neg w, if_neg g2, if_neg (hlo.resolve_left w), hb6]
          by_cases g4 : 99 < b
          · exact hi6 (Or.inl g4)
          · by_cases g5 : c ≤ 99
            · have hb99 : b.toInt ≤ 99 := (le_l (b := 99) (by omega)).mp (Int32.not_lt.mp g4)
              have hc99 : c.toInt ≤ 99 := (le_l (b := 99) (by omega)).mp g5
              have hb0 : ¬ b = 0 := by rintro rfl; exact g2 (by decide)
              obtain ⟨σa, σc, s1, s2, s3, s4⟩ := sc_set (x := b) (y1 := c) (y2 := c) hn h hk ⟨rfl, Or.inr ⟨b.toInt.toNat, c.toInt.toNat, by omega, by omega, by omega, by omega, of_t (by omega) (by omega), of_t (by omega) (by omega), of_t (by omega) (by omega)⟩⟩
              refine ⟨1, si (si σa 12 k b) 13 k c, si (si σc 118 (49 + k) b) 118 (57 + k) c, ?_, ?_, s4⟩
              · rw [jq_in hq h1 hk, bd_s, if_neg (by decide), if_neg g1, if_neg g2, if_pos g3]
                unfold j_scale_0_b34 j_scale_0_b57 j_scale_0_b111
                rw [if_neg g4, if_neg g2, if_pos g5, inB_t (by omega) (by omega), gd_t, gd_t, cl_n (by omega), s1, bd_s, gd_t, if_neg hb0, gd_t]
              · rw [mq_in hq (by rw [s3]; exact v0 h) hk, bd_s, if_neg (by decide), if_neg g1, if_neg g2, if_pos g3]
                unfold m_scale_117_b33 m_scale_117_b56 m_scale_117_b95
                rw [if_neg g4, if_neg g2, if_pos g5, i49, i57, s2, bd_s, inB_t (by omega) (by omega), gd_t, if_neg hb0, inB_t (by omega) (by omega), gd_t, cl_n (by omega), cl_n (by omega)]
            · exact hi6 (Or.inr g5)
        · exact low (Or.inr ⟨g1, g2, g3⟩)
