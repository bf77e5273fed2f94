/-! ===== PURE: a changed model measured; quantity ===== -/
theorem fin_meas {n q q' ver : Nat} {σ σb : Sg} (hn : n < 512) (h : VV n q ver σ) (hq' : q' ≤ 8) (b1 : σb.1 1 0 = nI q') (bk : ∀ k, k < q' → ∃ κ, κ < 6 ∧ σb.1 2 k = nI κ) (bt : ∀ k u, k < q' → u < 5 → tv (σb.1 (3 + 1 + k) u)) (bv : σb.1 51 1 = σ.1 51 1) : ∃ σc, j_measure_51_1 σb = some ((), σc) ∧ (∀ x, x ≤ 50 ∨ 70 ≤ x → σc.1 x = σb.1 x) ∧ ∀ σe : Sg, (∀ x, 51 ≤ x → x ≤ 69 → σe.1 x = σc.1 x ∧ σe.2 x = σc.2 x) → (∀ x, x ≤ 14 → σe.1 x = σb.1 x) → (∀ x, kc x → σe.1 x = σ.1 x) → σe.1 117 2 = σ.1 117 2 → σe.1 117 5 = σ.1 117 5 → MR 1 118 q' σe → HR q' σe → VV (n + 1) q' (ver + 1) σe := by
  obtain ⟨σc, c1, c2, c3, c4⟩ := j_measC (σ := σb) hq' b1 bk bt
  refine ⟨σc, c1, fun x hx => FR_i c2 (FRM_no x hx), ?_⟩
  intro σe e1 e2 e3 e4 e5 hM hH
  refine VV_mk hn h hq' e3 e4 e5 hM hH (SP_end hq' c3 ?_ e1) ?_
  · intro k u hk hu
    unfold dm dmc
    obtain ⟨κ, q1, q2, q3⟩ := hM.2.2.1 k hk
    have q2' : σe.1 2 k = nI κ := q2
    have mm : σe.1 (3 + 1 + k) u = σe.1 118 (9 + 5 * k + u) := (hM.2.2.2.1 k u hk hu).1
    rw [← e2 2 (by omega), q2', q3, ← e2 (3 + 1 + k) (by omega), mm]
  · rw [(e1 51 (by omega) (by omega)).1, c4, bv, h.2.2.2.2.2.2.2.2.2.2.1, nI_1]
theorem FM_up {b q q' : Nat} {σ : Sg} (hq : q ≤ q') (hq8 : q' ≤ 8) (h : FM b 118 q σ) : FM b 118 q' σ := by
  obtain ⟨len, l1, l2, l3⟩ := h
  refine ⟨len, l1, l2, ?_⟩
  rcases l3 with m | ⟨m1, m2, m3, m4, m5, m6⟩
  · exact Or.inl m
  · exact Or.inr ⟨m1, m2, m3, m4, m5, Fok_le hq hq8 m6⟩
theorem tv0 : tv 0 := ⟨by decide, by decide⟩
theorem mqu {q : Nat} {σ : Sg} (hq : q < 8) (h0 : σ.1 118 0 = nI q) : ∃ σ', m_quantity_117_L54 fu (nI q) 0 σ = some (nI q, σ') ∧ (∀ c, c ≠ 117 → c ≠ 118 → σ'.1 c = σ.1 c) ∧ σ'.2 = σ.2 ∧ (∀ j, j ≠ 7 → σ'.1 117 j = σ.1 117 j) ∧ σ'.1 117 7 = 0 ∧ σ'.1 118 0 = nI (q + 1) ∧ (∀ u, u < 5 → σ'.1 118 (9 + 5 * q + u) = 0) ∧ σ'.1 118 (49 + q) = 0 ∧ σ'.1 118 (57 + q) = 0 ∧ ∀ j, j ≠ 0 → j ≠ 49 + q → j ≠ 57 + q → (j < 9 + 5 * q ∨ 9 + 5 * q + 5 ≤ j) → σ'.1 118 j = σ.1 118 j := by
  refine loopE (L := fun m u s => m_quantity_117_L54 m (nI q) (nI u) s) (N := 5) (P := fun u τ => (∀ c, c ≠ 118 → τ.1 c = σ.1 c) ∧ τ.2 = σ.2 ∧ (∀ u', u' < u → τ.1 118 (9 + 5 * q + u') = 0) ∧ ∀ j, (j < 9 + 5 * q ∨ 9 + 5 * q + 5 ≤ j) → τ.1 118 j = σ.1 118 j) (Q := fun r => ∃ σ', r = some (nI q, σ') ∧ (∀ c, c ≠ 117 → c ≠ 118 → σ'.1 c = σ.1 c) ∧ σ'.2 = σ.2 ∧ (∀ j, j ≠ 7 → σ'.1 117 j = σ.1 117 j) ∧ σ'.1 117 7 = 0 ∧ σ'.1 118 0 = nI (q + 1) ∧ (∀ u, u < 5 → σ'.1 118 (9 + 5 * q + u) = 0) ∧ σ'.1 118 (49 + q) = 0 ∧ σ'.1 118 (57 + q) = 0 ∧ ∀ j, j ≠ 0 → j ≠ 49 + q → j ≠ 57 + q → (j < 9 + 5 * q ∨ 9 + 5 * q + 5 ≤ j) → σ'.1 118 j = σ.1 118 j) ?_ ?_ (by decide) ⟨fun _ _ => rfl, rfl, fun u h => absurd h (Nat.not_lt_zero _), fun _ _ => rfl⟩
  · rintro m u τ hu ⟨g1, g2, g3, g4⟩
    refine ⟨si τ 118 (9 + 5 * q + u) 0, ?_, fun c hc => (si_c hc).trans (g1 c hc), g2, ?_, ?_⟩
    · show m_quantity_117_H54 (m_quantity_117_L54 m) (nI q) (nI u) τ = _
      unfold m_quantity_117_H54
      rw [if_neg (show ¬ (5 : Int32) ≤ nI u from nI_ge (b := 5) hu (by decide)), i9, inB_t (by omega) (by omega), gd_t, cl_n (by omega), nI_1]
    · intro u' hu'
      by_cases e : u' = u
      · subst e; rw [si_e]
      · rw [si_j (by omega)]; exact g3 u' (by omega)
    · intro j hj
      rw [si_j (by omega)]; exact g4 j hj
  · rintro m τ ⟨g1, g2, g3, g4⟩
    refine ⟨si (si (si (si τ 118 (49 + q) 0) 118 (57 + q) 0) 118 0 (nI (q + 1))) 117 7 0, ?_, ?_, g2, ?_, ?_, ?_, ?_, ?_, ?_, ?_⟩
    · show m_quantity_117_H54 (m_quantity_117_L54 m) (nI q) (nI 5) τ = _
      unfold m_quantity_117_H54
      rw [if_pos (show (5 : Int32) ≤ nI 5 by decide), i49, i57, inB_t (by omega) (by omega), inB_t (by omega) (by omega), gd_t, gd_t, cl_n (by omega), cl_n (by omega), si_j (show 0 ≠ 57 + q by omega), si_j (show 0 ≠ 49 + q by omega), g4 0 (by omega), h0, nI_1]
    · intro c c1 c2; rw [si_c c1, si_c c2, si_c c2, si_c c2]; exact g1 c c2
    · intro j hj; rw [si_j hj, si_c (by omega), si_c (by omega), si_c (by omega), g1 117 (by omega)]
    · rw [si_e]
    · rw [si_c (by omega), si_e]
    · intro u hu
      rw [si_c (by omega), si_j (by omega), si_j (by omega), si_j (by omega)]; exact g3 u hu
    · rw [si_c (by omega), si_j (by omega), si_j (by omega), si_e]
    · rw [si_c (by omega), si_j (by omega), si_e]
    · intro j j1 j2 j3 j4
      rw [si_c (by omega), si_j j1, si_j j3, si_j j2]; exact g4 j j4
theorem op_quantity {n q ver : Nat} {σ : Sg} (hn : n < 512) (h : VV n q ver σ) (a : Int32) : ∃ r σ1 σ2, j_quantity_0 a σ = some (r, σ1) ∧ m_quantity_117 a σ1 = some (r, σ2) ∧ VI (n + 1) σ2 := by
  have hq := vq h
  have h1 := (v_118 h).2.1
  unfold j_quantity_0 m_quantity_117
  rcases in_out a (q := 6) (by decide) with o | ⟨κ, hκ, rfl⟩
  · refine ⟨-2, rj 2 σ, rm 2 (rj 2 σ), ?_, ?_, fin_ref hn (by omega) (by omega) h (Kp_refl _) (Kp_refl _)⟩
    · rw [jki_out o, bd_s, if_pos rfl, jr2, bd_s]
    · rw [mki_out o, bd_s, if_pos rfl, mr2, bd_s]
  · by_cases g : q = 8
    · refine ⟨-6, rj 6 σ, rm 6 (rj 6 σ), ?_, ?_, fin_ref hn (by omega) (by omega) h (Kp_refl _) (Kp_refl _)⟩
      · rw [jki_in hκ, bd_s, if_neg (by decide), h1, if_neg (show ¬ nI q < 8 from nI_nlt (b := 8) (by omega) (by omega)), jr6, bd_s]
      · rw [mki_in hκ, bd_s, if_neg (by decide), rj_118, v0 h, if_pos (show nI q = 8 by rw [g]; rfl), mr6, bd_s]
    · have hq8 : q < 8 := by omega
      obtain ⟨m1, m2, m3, m4, m5, m6⟩ := vMR h
      obtain ⟨hh, nx, hh20, hnx, r1, r2, r3, r4⟩ := h.2.2.2.2.2.2.2.2.1
      generalize hσa : si (si (si σ 2 q (nI κ)) 12 q 0) 13 q 1 = σa
      have ea : ∀ x, x ≠ 2 → x ≠ 12 → x ≠ 13 → σa.1 x = σ.1 x := fun x x1 x2 x3 => by rw [← hσa, si_c x3, si_c x2, si_c x1]
      obtain ⟨σf, f1, f2, f3, f4⟩ := jfill_x (ckT_told q hq8).1 (ckT_told q hq8).2 (by omega) σa
      have ef : ∀ x, x ≠ 3 + 1 + q → σf.1 x = σa.1 x := fun x hx => FR_i f2 (FR_1 hx)
      have hadd : j_add_1 (nI κ) σ = some ((), si σf 1 0 (nI (q + 1))) := by
        unfold j_add_1 j_add_1_b62
        rw [m1, if_neg (show ¬ (8 : Int32) ≤ nI q from nI_ge (b := 8) hq8 (by decide)), inB_t hq8 (by omega), gd_t, cl_n (by omega), si_c (show (1 : Nat) ≠ 2 by decide), m1, inB_t hq8 (by omega), gd_t, cl_n (by omega), si_c (show (1 : Nat) ≠ 12 by decide), si_c (show (1 : Nat) ≠ 2 by decide), m1, inB_t hq8 (by omega), gd_t, cl_n (by omega), hσa, ea 1 (by omega) (by omega) (by omega), m1, inB_t hq8 (by omega), gd_t, cl_n (by omega), f1, bd_s, ef 1 (by omega), ea 1 (by omega) (by omega) (by omega), m1, nI_1]
      generalize hσb : si (si σf 1 0 (nI (q + 1))) 29 2 0 = σb
      have eb : ∀ x, x ≠ 1 → x ≠ 29 → x ≠ 3 + 1 + q → x ≠ 2 → x ≠ 12 → x ≠ 13 → σb.1 x = σ.1 x := fun x x1 x2 x3 x4 x5 x6 => by rw [← hσb, si_c x2, si_c x1, ef x x3, ea x x4 x5 x6]
      have eb10 : σb.1 1 0 = nI (q + 1) := by rw [← hσb, si_c (by omega), si_e]
      have eb1j : ∀ j, j ≠ 0 → σb.1 1 j = σ.1 1 j := fun j hj => by rw [← hσb, si_c (by omega), si_j hj, ef 1 (by omega), ea 1 (by omega) (by omega) (by omega)]
      have eb2 : ∀ k, σb.1 2 k = if k = q then nI κ else σ.1 2 k := by
        intro k
        rw [← hσb, si_c (by omega), si_c (by omega), ef 2 (by omega), ← hσa, si_c (by omega), si_c (by omega)]
        by_cases e : k = q
        · subst e; rw [si_e, if_pos rfl]
        · rw [si_j e, if_neg e]
      have eb12 : ∀ k, σb.1 12 k = if k = q then 0 else σ.1 12 k := by
        intro k
        rw [← hσb, si_c (by omega), si_c (by omega), ef 12 (by omega), ← hσa, si_c (by omega)]
        by_cases e : k = q
        · subst e; rw [si_e, if_pos rfl]
        · rw [si_j e, si_c (by omega), if_neg e]
      have eb13 : ∀ k, σb.1 13 k = if k = q then 1 else σ.1 13 k := by
        intro k
        rw [← hσb, si_c (by omega), si_c (by omega), ef 13 (by omega), ← hσa]
        by_cases e : k = q
        · subst e; rw [si_e, if_pos rfl]
        · rw [si_j e, si_c (by omega), si_c (by omega), if_neg e]
      have ebt : ∀ k u, k < q + 1 → u < 5 → σb.1 (3 + 1 + k) u = if k = q then 0 else σ.1 118 (9 + 5 * k + u) := by
        intro k u hk hu
        by_cases e : k = q
        · subst e; rw [← hσb, si_c (by omega), si_c (by omega), if_pos rfl]; exact f4 u hu
        · rw [eb _ (by omega) (by omega) (by omega) (by omega) (by omega) (by omega), if_neg e]
          exact (m4 k u (by omega) hu).1
      obtain ⟨σc, c1, c2, c3⟩ := fin_meas (σb := σb) (q' := q + 1) hn h (by omega) eb10 (fun k hk => by
        rw [eb2]
        split
        · exact ⟨κ, hκ, rfl⟩
        · obtain ⟨κ', q1, q2, q3⟩ := m3 k (by omega)
          exact ⟨κ', q1, q2⟩) (fun k u hk hu => by
        rw [ebt k u hk hu]
        split
        · exact tv0
        · exact (m4 k u (by omega) hu).2) (by rw [eb 51 (by omega) (by omega) (by omega) (by omega) (by omega) (by omega)])
      have e118 : σc.1 118 = σ.1 118 := by rw [c2 118 (by omega), eb 118 (by omega) (by omega) (by omega) (by omega) (by omega) (by omega)]
      have e117 : σc.1 117 = σ.1 117 := by rw [c2 117 (by omega), eb 117 (by omega) (by omega) (by omega) (by omega) (by omega) (by omega)]
      obtain ⟨σe, y1, y2, y3, y4, y5, y6, y7, y8, y9, y10⟩ := mqu (σ := si σc 118 (1 + q) (nI κ)) hq8 (by rw [si_j (by omega), e118]; exact m2)
      have ez : ∀ x, x ≠ 117 → x ≠ 118 → σe.1 x = σc.1 x := fun x x1 x2 => by rw [y2 x x1 x2, si_c x2]
      have e14 : ∀ x, x ≤ 50 → σe.1 x = σb.1 x := fun x hx => by rw [ez x (by omega) (by omega), c2 x (by omega)]
      have e8k : σe.1 118 (1 + q) = nI κ := by rw [y10 _ (by omega) (by omega) (by omega) (by omega), si_e]
      have e8 : ∀ j, j ≠ 0 → j ≠ 1 + q → j ≠ 49 + q → j ≠ 57 + q → (j < 9 + 5 * q ∨ 9 + 5 * q + 5 ≤ j) → σe.1 118 j = σ.1 118 j := fun j j1 j2 j3 j4 j5 => by rw [y10 j j1 j3 j4 j5, si_j j2, e118]
      refine ⟨nI q, σc, σe, ?_, ?_, q + 1, ver + 1, c3 σe ?_ (fun x hx => e14 x (by omega)) ?_ ?_ ?_ ?_ ?_⟩
      · rw [jki_in hκ, bd_s, if_neg (by decide), h1, if_pos (show nI q < 8 from nI_lt (b := 8) hq8 (by decide)), hadd, bd_s]
        unfold j_forget_29
        rw [bd_s, hσb, c1, bd_s, c2 1 (by omega), eb10, nI_pred]
      · rw [mki_in hκ, bd_s, if_neg (by decide), e118, m2, if_neg (show ¬ nI q = 8 from fun w => g ((nI_eq (b := 8) (by omega) (by omega)).mp w)), i1k, inB_t (by omega) (by omega), gd_t, cl_n (by omega), y1]
      · intro x x1 x2
        exact ⟨ez x (by omega) (by omega), by rw [y3, si_l]⟩
      · intro x hx
        unfold kc at hx
        by_cases w : x ≤ 50
        · rw [e14 x w, eb x (by omega) (by omega) (by omega) (by omega) (by omega) (by omega)]
        · rw [ez x (by omega) (by omega), c2 x (by omega), eb x (by omega) (by omega) (by omega) (by omega) (by omega) (by omega)]
      · rw [y4 2 (by omega), si_c (by omega), e117]
      · rw [y4 5 (by omega), si_c (by omega), e117]
      · refine ⟨by rw [e14 1 (by omega)]; exact eb10, y6, ?_, ?_, ?_, ?_⟩
        · intro k hk
          have w : σe.1 (1 + 1) k = if k = q then nI κ else σ.1 2 k := by rw [e14 (1 + 1) (by omega)]; exact eb2 k
          rw [w]
          by_cases e : k = q
          · rw [if_pos e, e, e8k]; exact ⟨κ, hκ, rfl, rfl⟩
          · rw [if_neg e, e8 _ (by omega) (by omega) (by omega) (by omega) (by omega)]; exact m3 k (by omega)
        · intro k u hk hu
          have w : σe.1 (1 + 2 + 1 + k) u = if k = q then 0 else σ.1 118 (9 + 5 * k + u) := by rw [e14 (1 + 2 + 1 + k) (by omega)]; exact ebt k u hk hu
          rw [w]
          by_cases e : k = q
          · rw [if_pos e, e, y7 u hu]; exact ⟨rfl, tv0⟩
          · rw [if_neg e, e8 _ (by omega) (by omega) (by omega) (by omega) (by omega)]; exact ⟨rfl, (m4 k u (by omega) hu).2⟩
        · intro k hk
          have w1 : σe.1 (1 + 11) k = if k = q then 0 else σ.1 12 k := by rw [e14 (1 + 11) (by omega)]; exact eb12 k
          have w2 : σe.1 (1 + 12) k = if k = q then 1 else σ.1 13 k := by rw [e14 (1 + 12) (by omega)]; exact eb13 k
          rw [w1, w2]
          by_cases e : k = q
          · rw [if_pos e, if_pos e, e, y8]; exact ⟨rfl, Or.inl rfl⟩
          · rw [if_neg e, if_neg e, e8 _ (by omega) (by omega) (by omega) (by omega) (by omega), e8 _ (by omega) (by omega) (by omega) (by omega) (by omega)]; exact m5 k (by omega)
        · exact FM_up (Nat.le_succ q) (by omega) (FM_cg m6 (by rw [e14 1 (by omega)]; exact eb1j 6 (by omega)) (by rw [e14 1 (by omega)]; exact eb1j 7 (by omega)) (by rw [e14 (1 + 13) (by omega)]; exact eb 14 (by omega) (by omega) (by omega) (by omega) (by omega) (by omega)) (fun j hj => e8 j (by omega) (by omega) (by omega) (by omega) (by omega)))
      · refine ⟨0, nx, by omega, hnx, ?_, ?_, y5, fun j hj => absurd hj (Nat.not_lt_zero _)⟩
        · rw [e14 29 (by omega), ← hσb, si_j (by omega), si_c (by omega), ef 29 (by omega), ea 29 (by omega) (by omega) (by omega)]; exact r1
        · rw [e14 29 (by omega), ← hσb, si_e]; rfl
