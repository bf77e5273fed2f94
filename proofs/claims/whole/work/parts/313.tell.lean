/-! ===== PURE: tell, turn, scale ===== -/
theorem RPu_tr {σ σa σe : Sg} {nx h : Nat} {v0 v1 v2 v3 : Int32} (hnx : nx < 20) (h1 : RPu σ σa nx h v0 v1 v2 v3) (h2 : ∀ c, 29 ≤ c → c ≤ 50 → σe.1 c = σa.1 c) : RPu σ σe nx h v0 v1 v2 v3 := by
  obtain ⟨r1, r2, r3, r4, r5, r6, r7⟩ := h1
  refine ⟨fun i hi hne => (h2 _ (by omega) (by omega)).trans (r1 i hi hne), ?_, ?_, ?_, ?_, ?_, ?_⟩
  · rw [h2 _ (by omega) (by omega)]; exact r2
  · rw [h2 _ (by omega) (by omega)]; exact r3
  · rw [h2 _ (by omega) (by omega)]; exact r4
  · rw [h2 _ (by omega) (by omega)]; exact r5
  · rw [h2 29 (by omega) (by omega)]; exact r6
  · rw [h2 29 (by omega) (by omega)]; exact r7
theorem SPu_tr {σ σc σd σe : Sg} {h : Nat} {s0 s1 s2 s3 : Int32} (h1 : SPu σc σd h s0 s1 s2 s3) (h2 : σc.1 122 = σ.1 122) (h3 : σe.1 122 = σd.1 122) (h4 : σe.1 117 7 = σd.1 117 7) : SPu σ σe h s0 s1 s2 s3 := by
  unfold SPu at *
  rw [h3, h4, ← h2]; exact h1
theorem FM_cg {b q : Nat} {σ σ' : Sg} (h : FM b 118 q σ) (h1 : σ'.1 b 6 = σ.1 b 6) (h2 : σ'.1 b 7 = σ.1 b 7) (h3 : σ'.1 (b + 13) = σ.1 (b + 13)) (h4 : ∀ j, 65 ≤ j → σ'.1 118 j = σ.1 118 j) : FM b 118 q σ' := by
  have hf : (fun j => σ'.1 118 (67 + j)) = (fun j => σ.1 118 (67 + j)) := by funext j; exact h4 _ (by omega)
  obtain ⟨len, l1, l2, l3⟩ := h
  refine ⟨len, l1, h1.trans l2, ?_⟩
  rcases l3 with ⟨m1, m2⟩ | ⟨m1, m2, m3, m4, m5, m6⟩
  · exact Or.inl ⟨h2.trans m1, (h4 66 (by omega)).trans m2⟩
  · refine Or.inr ⟨m1, (h4 66 (by omega)).trans m2, by rw [h2, h4 65 (by omega)]; exact m3, by rw [h2]; exact m4, ?_, by rw [hf]; exact m6⟩
    intro j hj
    rw [h3, h4 _ (by omega)]; exact m5 j hj
theorem tv_of {v : Int32} (h1 : -9 ≤ v) (h2 : v ≤ 9) : tv v := by
  have a := Int32.le_iff_toInt_le.mp h1
  have b := Int32.le_iff_toInt_le.mp h2
  rw [show (-9 : Int32).toInt = -9 by decide] at a
  rw [show (9 : Int32).toInt = 9 by decide] at b
  exact ⟨a, b⟩
theorem FRM_no : ∀ c, c ≤ 50 ∨ 70 ≤ c → FRM.contains c = false := by
  intro c hc
  cases hq : FRM.contains c
  · rfl
  · have h1 : c ∈ FRM := by simpa using hq
    unfold FRM at h1
    simp only [List.mem_cons, List.not_mem_nil, or_false] at h1
    omega
theorem i9 (k u : Nat) : (9 : Int32) + 5 * nI k + nI u = nI (9 + 5 * k + u) := by
  rw [show (5 : Int32) = nI 5 from rfl, nI_mul, show (9 : Int32) = nI 9 from rfl, nI_add, nI_add]
theorem ver_up {n ver : Nat} (h : ver ≤ n) (hn : n < 512) : nI ver + 1 = nI (ver + 1) := nI_1 _
theorem op_tell {n q ver : Nat} {σ : Sg} (hn : n < 512) (h : VV n q ver σ) (a b c : Int32) : ∃ r σ1 σ2, j_tell_0 a b c σ = some (r, σ1) ∧ m_tell_117 a b c σ1 = some (r, σ2) ∧ VI (n + 1) σ2 := by
  have hq := vq h
  have h1 := (v_118 h).2.1
  unfold j_tell_0 j_tell_0_b15 m_tell_117 m_tell_117_b15
  rcases in_out a (q := q) (by omega) with o | ⟨k, hk, rfl⟩
  · refine ⟨1000000000 - (-1), rj 1 σ, rm 1 (rj 1 σ), ?_, ?_, fin_ref hn (by omega) (by omega) h (Kp_refl _) (Kp_refl _)⟩
    · rw [jq_out h1 o, bd_s, if_pos rfl, jrf1, bd_s]
    · rw [mq_out hq (by rw [rj_118]; exact v0 h) o, bd_s, if_pos rfl, mrf1, bd_s]
  · rcases in_out b (q := 5) (by decide) with o | ⟨u, hu, rfl⟩
    · refine ⟨1000000000 - (-1), rj 1 σ, rm 1 (rj 1 σ), ?_, ?_, fin_ref hn (by omega) (by omega) h (Kp_refl _) (Kp_refl _)⟩
      · rw [jq_in hq h1 hk, bd_s, if_neg (by decide), jun_out o, bd_s, if_pos rfl, jrf1, bd_s]
      · rw [mq_in hq (by rw [rj_118]; exact v0 h) hk, bd_s, if_neg (by decide), mun_out o, bd_s, if_pos rfl, mrf1, bd_s]
    · by_cases g1 : -9 ≤ c
      · by_cases g2 : c ≤ 9
        · have htv := tv_of g1 g2
          obtain ⟨hh, nx, hh20, hnx, r1, r2, r3, r4⟩ := h.2.2.2.2.2.2.2.2.1
          obtain ⟨m1, m2, m3, m4, m5, m6⟩ := vMR h
          obtain ⟨mt, mtv⟩ := m4 k u hk hu
          have mt' : σ.1 (3 + 1 + k) u = σ.1 118 (9 + 5 * k + u) := mt
          obtain ⟨σa, a1, a2, a3, a4⟩ := jnote (v0 := 0) (v1 := nI k) (v2 := nI u) (v3 := σ.1 (3 + 1 + k) u) hh20 hnx r1 r2
          generalize hσb : si σa (3 + 1 + k) u c = σb
          have eb : ∀ x, x ≠ 29 → (x < 31 ∨ 50 < x) → x ≠ 3 + 1 + k → σb.1 x = σ.1 x := fun x x1 x2 x3 => by rw [← hσb, si_c x3]; exact a3 x x1 x2
          have ebt : ∀ k' u', k' < q → u' < 5 → σb.1 (3 + 1 + k') u' = if k' = k ∧ u' = u then c else σ.1 118 (9 + 5 * k' + u') := by
            intro k' u' hk' hu'
            have mm : σ.1 (3 + 1 + k') u' = σ.1 118 (9 + 5 * k' + u') := (m4 k' u' hk' hu').1
            by_cases e : k' = k
            · subst e
              by_cases e2 : u' = u
              · subst e2; rw [← hσb, si_e, if_pos ⟨rfl, rfl⟩]
              · rw [← hσb, si_j e2, a3 _ (by omega) (by omega), if_neg (fun w => e2 w.2)]; exact mm
            · rw [eb _ (by omega) (by omega) (by omega), if_neg (fun w => e w.1)]; exact mm
          obtain ⟨σc, c1, c2, c3, c4⟩ := j_measC (σ := σb) hq (by rw [eb 1 (by omega) (by omega) (by omega)]; exact m1) (fun k' hk' => by
            obtain ⟨κ, q1, q2, q3⟩ := m3 k' hk'
            exact ⟨κ, q1, by rw [eb 2 (by omega) (by omega) (by omega)]; exact q2⟩) (fun k' u' hk' hu' => by
            rw [ebt k' u' hk' hu']
            split
            · exact htv
            · exact (m4 k' u' hk' hu').2)
          have ec : ∀ x, x ≤ 50 ∨ 70 ≤ x → σc.1 x = σb.1 x := fun x hx => FR_i c2 (FRM_no x hx)
          have e117 : σc.1 117 = σ.1 117 := by rw [ec 117 (by omega), eb 117 (by omega) (by omega) (by omega)]
          have e118 : σc.1 118 = σ.1 118 := by rw [ec 118 (by omega), eb 118 (by omega) (by omega) (by omega)]
          have e122 : σc.1 122 = σ.1 122 := by rw [ec 122 (by omega), eb 122 (by omega) (by omega) (by omega)]
          obtain ⟨σd, d1, d2, d3, d4, d5⟩ := mch (h := hh) (a := 9 + 5 * k + u) (o := -1) (σ := σc) hh20 (by omega) (Or.inl (by decide)) (by rw [e117]; exact r3)
          generalize hσe : si σd 118 (9 + 5 * k + u) c = σe
          have ee : ∀ x, x ≠ 118 → σe.1 x = σd.1 x := fun x hx => by rw [← hσe, si_c hx]
          have ee8 : ∀ j, j ≠ 9 + 5 * k + u → σe.1 118 j = σ.1 118 j := fun j hj => by rw [← hσe, si_j hj, d2 118 (by omega) (by omega), e118]
          have ee8' : σe.1 118 (9 + 5 * k + u) = c := by rw [← hσe, si_e]
          have eall : ∀ x, (x ≤ 28 ∨ 70 ≤ x) → x ≠ 117 → x ≠ 122 → x ≠ 118 → x ≠ 3 + 1 + k → σe.1 x = σ.1 x := by
            intro x x1 x2 x3 x4 x5
            rw [ee x x4, d2 x x2 x3, ec x (by omega), eb x (by omega) (by omega) x5]
          have etold : ∀ x, x ≤ 50 → σe.1 x = σb.1 x := fun x hx => by rw [ee x (by omega), d2 x (by omega) (by omega), ec x (by omega)]
          have hMR : MR 1 118 q σe := by
            refine ⟨by rw [eall 1 (by omega) (by omega) (by omega) (by omega) (by omega)]; exact m1, by rw [ee8 0 (by omega)]; exact m2, ?_, ?_, ?_, ?_⟩
            · intro k' hk'
              rw [eall (1 + 1) (by omega) (by omega) (by omega) (by omega) (by omega), ee8 (1 + k') (by omega)]; exact m3 k' hk'
            · intro k' u' hk' hu'
              have e1 : σe.1 (1 + 2 + 1 + k') u' = if k' = k ∧ u' = u then c else σ.1 118 (9 + 5 * k' + u') := by
                rw [etold (1 + 2 + 1 + k') (by omega)]; exact ebt k' u' hk' hu'
              by_cases e : k' = k ∧ u' = u
              · rw [e1, if_pos e, e.1, e.2, ee8']; exact ⟨rfl, htv⟩
              · rw [e1, if_neg e, ee8 _ (by omega)]; exact ⟨rfl, (m4 k' u' hk' hu').2⟩
            · intro k' hk'
              rw [eall (1 + 11) (by omega) (by omega) (by omega) (by omega) (by omega), eall (1 + 12) (by omega) (by omega) (by omega) (by omega) (by omega), ee8 _ (by omega), ee8 _ (by omega)]; exact m5 k' hk'
            · exact FM_cg m6 (by rw [eall 1 (by omega) (by omega) (by omega) (by omega) (by omega)]) (by rw [eall 1 (by omega) (by omega) (by omega) (by omega) (by omega)]) (eall 14 (by omega) (by omega) (by omega) (by omega) (by omega)) (fun j hj => ee8 j (by omega))
          have hRP : RPu σ σe nx hh 0 (nI k) (nI u) (σ.1 (3 + 1 + k) u) := RPu_tr hnx a2 (fun x x1 x2 => by rw [etold x x2, ← hσb, si_c (by omega)])
          have hSP : SPu σ σe hh (nI (9 + 5 * k + u)) (σc.1 118 (9 + 5 * k + u)) (-1) (if (-1 : Int32) < 0 then 0 else σc.1 118 (Int32.toNatClampNeg (-1))) := SPu_tr d5 e122 (ee 122 (by omega)) (by rw [ee 117 (by omega)])
          have hHE : HE q σe nx (min hh 19) := by
            refine ⟨k, hk, hRP.2.2.1, Or.inl ⟨hRP.2.1, u, hu, hRP.2.2.2.1, ?_, hSP.2.1, ?_, hSP.2.2.2.1⟩⟩
            · rw [hSP.2.2.1, e118]; exact mtv
            · rw [hRP.2.2.2.2.1, hSP.2.2.1, e118]; exact mt'
          refine ⟨σ.1 (3 + 1 + k) u, σc, σe, ?_, ?_, q, ver + 1, VV_mk hn h hq ?_ ?_ ?_ hMR (HR_push hh20 hnx r4 hRP hSP hHE) ?_ ?_⟩
          · rw [jq_in hq h1 hk, bd_s, if_neg (by decide), jun_in hu, bd_s, if_neg (by decide), if_pos g1, if_pos g2, inB_t (by omega) (by omega), gd_t, cl_n (by omega), ar_told (by omega) hu, gd_t, cl_n (by omega), a1, bd_s, gd_t, gd_t, hσb, c1, bd_s]
          · rw [mq_in hq (by rw [e118]; exact m2) hk, bd_s, if_neg (by decide), mun_in hu, bd_s, if_neg (by decide), if_pos g1, if_pos g2, i9, inB_t (by omega) (by omega), gd_t, d1, bd_s, gd_t, cl_n (by omega), hσe, e118, mt']
          · intro x hx
            unfold kc at hx
            exact eall x (by omega) (by omega) (by omega) (by omega) (by omega)
          · rw [ee 117 (by omega), d4 2 (by omega), e117]
          · rw [ee 117 (by omega), d4 5 (by omega), e117]
          · refine SP_end hq c3 ?_ (fun x x1 x2 => ⟨by rw [ee x (by omega), d2 x (by omega) (by omega)], by rw [← hσe, si_l, d3]⟩)
            intro k' u' hk' hu'
            unfold dm dmc
            obtain ⟨κ, q1, q2, q3⟩ := m3 k' hk'
            have q2' : σ.1 2 k' = nI κ := q2
            rw [ebt k' u' hk' hu', eb 2 (by omega) (by omega) (by omega), ee8 (1 + k') (by omega), q3, q2']
            by_cases e : k' = k ∧ u' = u
            · rw [if_pos e, e.1, e.2, ee8']
            · rw [if_neg e, ee8 _ (by omega)]
          · rw [ee 51 (by omega), d2 51 (by omega) (by omega), c4, eb 51 (by omega) (by omega) (by omega), h.2.2.2.2.2.2.2.2.2.2.1, nI_1]
        · refine ⟨1000000000 - (-6), rj 6 σ, rm 6 (rj 6 σ), ?_, ?_, fin_ref hn (by omega) (by omega) h (Kp_refl _) (Kp_refl _)⟩
          · rw [jq_in hq h1 hk, bd_s, if_neg (by decide), jun_in hu, bd_s, if_neg (by decide), if_pos g1, if_neg g2, jrf6, bd_s]
          · rw [mq_in hq (by rw [rj_118]; exact v0 h) hk, bd_s, if_neg (by decide), mun_in hu, bd_s, if_neg (by decide), if_pos g1, if_neg g2, mrf6, bd_s]
      · refine ⟨1000000000 - (-4), rj 4 σ, rm 4 (rj 4 σ), ?_, ?_, fin_ref hn (by omega) (by omega) h (Kp_refl _) (Kp_refl _)⟩
        · rw [jq_in hq h1 hk, bd_s, if_neg (by decide), jun_in hu, bd_s, if_neg (by decide), if_neg g1, jrf4, bd_s]
        · rw [mq_in hq (by rw [rj_118]; exact v0 h) hk, bd_s, if_neg (by decide), mun_in hu, bd_s, if_neg (by decide), if_neg g1, mrf4, bd_s]
