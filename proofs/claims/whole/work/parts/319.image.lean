/-! ===== PURE: image, on ===== -/
theorem fm_len {b g q : Nat} {σ : Sg} (h : FM b g q σ) : ∃ len, len ≤ 72 ∧ σ.1 b 6 = nI len := by
  obtain ⟨len, l1, l2, _⟩ := h; exact ⟨len, l1, l2⟩
/-- a model copied on both sides -/
theorem MR_copy {b g b' g' q len : Nat} {σ σ' : Sg} (hq : q ≤ 8) (h : MR b g q σ) (h6 : σ.1 b 6 = nI len) (hlen : len ≤ 72) (c0 : σ'.1 b' 0 = nI q) (ck : ∀ k, k < q → σ'.1 (b' + 1) k = σ.1 (b + 1) k ∧ σ'.1 (b' + 11) k = σ.1 (b + 11) k ∧ σ'.1 (b' + 12) k = σ.1 (b + 12) k ∧ ∀ u, u < 5 → σ'.1 (b' + 2 + 1 + k) u = σ.1 (b + 2 + 1 + k) u) (c6 : σ'.1 b' 6 = nI len) (c7 : σ'.1 b' 7 = σ.1 b 7) (cl : ∀ j, j < len → σ'.1 (b' + 13) j = σ.1 (b + 13) j) (cg : ∀ j, j < 139 → σ'.1 g' j = σ.1 g j) : MR b' g' q σ' := by
  obtain ⟨m1, m2, m3, m4, m5, m6⟩ := h
  refine ⟨c0, by rw [cg 0 (by omega)]; exact m2, ?_, ?_, ?_, ?_⟩
  · intro k hk
    rw [(ck k hk).1, cg (1 + k) (by omega)]; exact m3 k hk
  · intro k u hk hu
    rw [(ck k hk).2.2.2 u hu, cg (9 + 5 * k + u) (by omega)]; exact m4 k u hk hu
  · intro k hk
    rw [(ck k hk).2.1, (ck k hk).2.2.1, cg _ (by omega), cg _ (by omega)]; exact m5 k hk
  · obtain ⟨len', l1, l2, l3⟩ := m6
    have hll : len' = len := (nI_eq (by omega) (by omega)).mp (l2.symm.trans h6)
    subst hll
    refine ⟨len', l1, c6, ?_⟩
    rcases l3 with ⟨p1, p2⟩ | ⟨p1, p2, p3, p4, p5, p6⟩
    · exact Or.inl ⟨c7.trans p1, by rw [cg 66 (by omega)]; exact p2⟩
    · refine Or.inr ⟨p1, by rw [cg 66 (by omega)]; exact p2, by rw [c7, cg 65 (by omega)]; exact p3, by rw [c7]; exact p4, ?_, ?_⟩
      · intro j hj
        rw [cl j hj, cg _ (by omega)]; exact p5 j hj
      · exact Fok_cg p6 (fun j hj => cg _ (by omega))
theorem mimg {q : Nat} {σ : Sg} (h0 : σ.1 118 0 = nI q) : ∃ σ', m_image_117 σ = some (nI q, σ') ∧ (∀ c, c ≠ 117 → c ≠ 119 → σ'.1 c = σ.1 c) ∧ σ'.2 = σ.2 ∧ (∀ j, j ≠ 2 → σ'.1 117 j = σ.1 117 j) ∧ σ'.1 117 2 = 1 ∧ ∀ j, j < 139 → σ'.1 119 j = σ.1 118 j := by
  unfold m_image_117
  refine loopE (L := fun m i s => m_image_117_L2 m (nI i) s) (N := 139) (P := fun i τ => FR [119] σ τ ∧ τ.2 = σ.2 ∧ ∀ j, j < i → τ.1 119 j = σ.1 118 j) (Q := fun r => ∃ σ', r = some (nI q, σ') ∧ (∀ c, c ≠ 117 → c ≠ 119 → σ'.1 c = σ.1 c) ∧ σ'.2 = σ.2 ∧ (∀ j, j ≠ 2 → σ'.1 117 j = σ.1 117 j) ∧ σ'.1 117 2 = 1 ∧ ∀ j, j < 139 → σ'.1 119 j = σ.1 118 j) ?_ ?_ (by decide) ⟨FR_refl _ _, rfl, fun j hj => absurd hj (Nat.not_lt_zero _)⟩
  · rintro m i τ hi ⟨f, f2, g⟩
    refine ⟨si τ 119 i (σ.1 118 i), ?_, FR_si f (by decide), f2, ?_⟩
    · show m_image_117_H2 (m_image_117_L2 m) (nI i) τ = _
      unfold m_image_117_H2
      rw [if_neg (show ¬ (139 : Int32) ≤ nI i from nI_ge (b := 139) hi (by decide)), inB_t hi (by omega), gd_t, gd_t, cl_n (by omega), FR_i f (by decide), nI_1]
    · intro j hj
      by_cases e : j = i
      · rw [e, si_e]
      · rw [si_j e]; exact g j (by omega)
  · rintro m τ ⟨f, f2, g⟩
    refine ⟨si τ 117 2 1, ?_, fun c c1 c2 => by rw [si_c c1]; exact FR_i f (FR_1 c2), f2, fun j hj => by rw [si_j hj, FR_i f (by decide)], si_e, fun j hj => by rw [si_c (by omega)]; exact g j hj⟩
    show m_image_117_H2 (m_image_117_L2 m) (nI 139) τ = _
    unfold m_image_117_H2
    rw [if_pos (show (139 : Int32) ≤ nI 139 by decide), si_c (by omega), FR_i f (by decide), h0]
theorem mon {q : Nat} {σ : Sg} (h0 : σ.1 119 0 = nI q) : ∃ σ', m_on_117_L15 fu 0 σ = some (nI q, σ') ∧ (∀ c, c ≠ 117 → c ≠ 118 → σ'.1 c = σ.1 c) ∧ σ'.2 = σ.2 ∧ (∀ j, j ≠ 7 → σ'.1 117 j = σ.1 117 j) ∧ σ'.1 117 7 = 0 ∧ ∀ j, j < 139 → σ'.1 118 j = σ.1 119 j := by
  refine loopE (L := fun m i s => m_on_117_L15 m (nI i) s) (N := 139) (P := fun i τ => FR [118] σ τ ∧ τ.2 = σ.2 ∧ ∀ j, j < i → τ.1 118 j = σ.1 119 j) (Q := fun r => ∃ σ', r = some (nI q, σ') ∧ (∀ c, c ≠ 117 → c ≠ 118 → σ'.1 c = σ.1 c) ∧ σ'.2 = σ.2 ∧ (∀ j, j ≠ 7 → σ'.1 117 j = σ.1 117 j) ∧ σ'.1 117 7 = 0 ∧ ∀ j, j < 139 → σ'.1 118 j = σ.1 119 j) ?_ ?_ (by decide) ⟨FR_refl _ _, rfl, fun j hj => absurd hj (Nat.not_lt_zero _)⟩
  · rintro m i τ hi ⟨f, f2, g⟩
    refine ⟨si τ 118 i (σ.1 119 i), ?_, FR_si f (by decide), f2, ?_⟩
    · show m_on_117_H15 (m_on_117_L15 m) (nI i) τ = _
      unfold m_on_117_H15
      rw [if_neg (show ¬ (139 : Int32) ≤ nI i from nI_ge (b := 139) hi (by decide)), inB_t hi (by omega), gd_t, gd_t, cl_n (by omega), FR_i f (by decide), nI_1]
    · intro j hj
      by_cases e : j = i
      · rw [e, si_e]
      · rw [si_j e]; exact g j (by omega)
  · rintro m τ ⟨f, f2, g⟩
    refine ⟨si τ 117 7 0, ?_, fun c c1 c2 => by rw [si_c c1]; exact FR_i f (FR_1 c2), f2, fun j hj => by rw [si_j hj, FR_i f (by decide)], si_e, fun j hj => by rw [si_c (by omega)]; exact g j hj⟩
    show m_on_117_H15 (m_on_117_L15 m) (nI 139) τ = _
    unfold m_on_117_H15
    rw [if_pos (show (139 : Int32) ≤ nI 139 by decide), si_c (by omega), g 0 (by omega), h0]
theorem op_image {n q ver : Nat} {σ : Sg} (hn : n < 512) (h : VV n q ver σ) : ∃ r σ1 σ2, j_image_0 σ = some (r, σ1) ∧ m_image_117 σ1 = some (r, σ2) ∧ VI (n + 1) σ2 := by
  have hq := vq h
  have hM := vMR h
  obtain ⟨len, hlen, h6⟩ := fm_len hM.2.2.2.2.2
  obtain ⟨σ1, c1, c2, c3, c4, c5, c6, c7, c8⟩ := jcopy_15_1 hq hlen hM.1 h6
  generalize hσ2 : si σ1 0 2 1 = σ2
  have e2 : ∀ x, (x < 15 ∨ 28 < x) → x ≠ 0 → σ2.1 x = σ.1 x := fun x hx h0 => by rw [← hσ2, si_c h0]; exact c2 x hx
  obtain ⟨σ3, d1, d2, d3, d4, d5, d6⟩ := mimg (σ := σ2) (q := q) (by rw [e2 118 (by omega) (by omega)]; exact v0 h)
  have e3 : ∀ x, (x < 15 ∨ 28 < x) → x ≠ 0 → x ≠ 117 → x ≠ 119 → σ3.1 x = σ.1 x := fun x hx h0 h1 h2 => by rw [d2 x h1 h2, e2 x hx h0]
  have e3i : ∀ x, 15 ≤ x → x ≤ 28 → σ3.1 x = σ1.1 x := fun x x1 x2 => by rw [d2 x (by omega) (by omega), ← hσ2, si_c (by omega)]
  have e3l : σ3.2 = σ.2 := by rw [d3, ← hσ2, si_l, c3]
  have e117 : ∀ j, j ≠ 2 → σ3.1 117 j = σ.1 117 j := fun j hj => by rw [d4 j hj, e2 117 (by omega) (by omega)]
  obtain ⟨a1, a2, a3, a4, a5, a6, a7, a8, a9, a10, a11, a12, a13⟩ := h
  refine ⟨nI q, σ2, σ3, ?_, d1, q, ver, by omega, by omega, a3, ?_, ?_, ?_, ?_, ?_, ?_, ?_, ?_, ?_, ?_⟩
  · unfold j_image_0
    rw [c1, bd_s, hσ2, e2 1 (by omega) (by omega), hM.1]
  · exact MR_fr a3 a4 (e3 118 (by omega) (by omega) (by omega) (by omega)) (fun c _ _ => e3 c (by omega) (by omega) (by omega) (by omega))
  · refine Or.inr ⟨?_, d5, q, a3, ?_⟩
    · rw [d2 0 (by omega) (by omega), ← hσ2, si_e]
    · refine MR_copy a3 a4 h6 hlen (by rw [e3i 15 (by omega) (by omega)]; exact c4) ?_ (by rw [e3i 15 (by omega) (by omega)]; exact c6) (by rw [e3i 15 (by omega) (by omega)]; exact c7) (fun j hj => by rw [e3i (15 + 13) (by omega) (by omega)]; exact c8 j hj) (fun j hj => by rw [d6 j hj, e2 118 (by omega) (by omega)])
      intro k hk
      rw [e3i (15 + 1) (by omega) (by omega), e3i (15 + 11) (by omega) (by omega), e3i (15 + 12) (by omega) (by omega), e3i (15 + 2 + 1 + k) (by omega) (by omega)]
      exact c5 k hk
  · exact LR_fr a6 (by rw [d2 0 (by omega) (by omega), ← hσ2, si_j (by omega), c2 0 (by omega)]) (e3 107 (by omega) (by omega) (by omega) (by omega)) (e3 121 (by omega) (by omega) (by omega) (by omega)) (e117 5 (by omega))
  · exact LI_fr a7 (fun c _ _ => e3 c (by omega) (by omega) (by omega) (by omega)) (e3 126 (by omega) (by omega) (by omega) (by omega)) (e3 127 (by omega) (by omega) (by omega) (by omega))
  · exact RF_fr a8 (e3 116 (by omega) (by omega) (by omega) (by omega)) (e3 120 (by omega) (by omega) (by omega) (by omega))
  · exact HR_fr a9 (fun c _ _ => e3 c (by omega) (by omega) (by omega) (by omega)) (e3 122 (by omega) (by omega) (by omega) (by omega)) (e117 7 (by omega))
  · exact SP_fr a3 a10 (e3 118 (by omega) (by omega) (by omega) (by omega)) (fun c _ _ => ⟨e3 c (by omega) (by omega) (by omega) (by omega), by rw [e3l]⟩)
  · rw [e3 51 (by omega) (by omega) (by omega) (by omega)]; exact a11
  · exact CCh_fr a12 (e3 70 (by omega) (by omega) (by omega) (by omega)) (e3 118 (by omega) (by omega) (by omega) (by omega))
  · exact CSe_fr a13 (e3 80 (by omega) (by omega) (by omega) (by omega)) (e3 81 (by omega) (by omega) (by omega) (by omega)) (e3 104 (by omega) (by omega) (by omega) (by omega)) (e3 118 (by omega) (by omega) (by omega) (by omega))
theorem op_on {n q ver : Nat} {σ : Sg} (hn : n < 512) (h : VV n q ver σ) : ∃ r σ1 σ2, j_on_0 σ = some (r, σ1) ∧ m_on_117 σ1 = some (r, σ2) ∧ VI (n + 1) σ2 := by
  unfold j_on_0 m_on_117
  rcases h.2.2.2.2.1 with ⟨i1, i2⟩ | ⟨i1, i2, q', hq', hM⟩
  · refine ⟨-3, rj 3 σ, rm 3 (rj 3 σ), ?_, ?_, fin_ref hn (by omega) (by omega) h (Kp_refl _) (Kp_refl _)⟩
    · rw [i1, if_pos rfl, jr3, bd_s]
    · rw [rj_c (by decide), i2, if_pos rfl, mr3, bd_s]
  · obtain ⟨hh, nx, hh20, hnx, r1, r2, r3, r4⟩ := h.2.2.2.2.2.2.2.2.1
    obtain ⟨len, hlen, h6⟩ := fm_len hM.2.2.2.2.2
    obtain ⟨σ1, c1, c2, c3, c4, c5, c6, c7, c8⟩ := jcopy_1_15 hq' hlen hM.1 h6
    generalize hσb : si σ1 29 2 0 = σb
    have eb : ∀ x, 14 < x → x ≠ 29 → σb.1 x = σ.1 x := fun x hx h9 => by rw [← hσb, si_c h9]; exact c2 x (by omega)
    have eb0 : σb.1 0 = σ.1 0 := by rw [← hσb, si_c (by omega)]; exact c2 0 (by omega)
    have eb' : ∀ x, x ≤ 14 → σb.1 x = σ1.1 x := fun x hx => by rw [← hσb, si_c (by omega)]
    obtain ⟨σc, f1, f2, f3⟩ := fin_meas (σb := σb) (q' := q') hn h hq' (by rw [eb' 1 (by omega)]; exact c4) (fun k hk => by
      obtain ⟨κ, q1, q2, q3⟩ := hM.2.2.1 k hk
      exact ⟨κ, q1, by rw [eb' 2 (by omega)]; exact ((c5 k hk).1).trans q2⟩) (fun k u hk hu => by
      have mm := hM.2.2.2.1 k u hk hu
      have e0 : σb.1 (3 + 1 + k) u = σ.1 (15 + 2 + 1 + k) u := by rw [eb' (3 + 1 + k) (by omega)]; exact (c5 k hk).2.2.2 u hu
      rw [e0, mm.1]; exact mm.2) (by rw [eb 51 (by omega) (by omega)])
    have ec : ∀ x, (14 < x ∧ x ≤ 50) ∨ 70 ≤ x → x ≠ 29 → σc.1 x = σ.1 x := fun x hx h9 => by rw [f2 x (by omega), eb x (by omega) h9]
    obtain ⟨σe, d1, d2, d3, d4, d5, d6⟩ := mon (σ := σc) (q := q') (by rw [ec 119 (by omega) (by omega)]; exact hM.2.1)
    have e117 : σc.1 117 = σ.1 117 := ec 117 (by omega) (by omega)
    have ed : ∀ x, x ≤ 50 → σe.1 x = σb.1 x := fun x hx => by rw [d2 x (by omega) (by omega), f2 x (by omega)]
    refine ⟨nI q', σc, σe, ?_, ?_, q', ver + 1, f3 σe ?_ (fun x hx => ed x (by omega)) ?_ ?_ ?_ ?_ ?_⟩
    · rw [i1, if_neg (by decide), c1, bd_s]
      unfold j_forget_29
      rw [bd_s, hσb, f1, bd_s, f2 1 (by omega), eb' 1 (by omega), c4]
    · rw [e117, i2, if_neg (by decide), d1]
    · intro x x1 x2
      exact ⟨d2 x (by omega) (by omega), by rw [d3]⟩
    · intro x hx
      unfold kc at hx
      by_cases w0 : x = 0
      · subst w0; rw [ed 0 (by omega), eb0]
      · rw [d2 x (by omega) (by omega), ec x (by omega) (by omega)]
    · rw [d4 2 (by omega), e117]
    · rw [d4 5 (by omega), e117]
    · refine MR_copy hq' hM h6 hlen (by rw [ed 1 (by omega), eb' 1 (by omega)]; exact c4) ?_ (by rw [ed 1 (by omega), eb' 1 (by omega)]; exact c6) (by rw [ed 1 (by omega), eb' 1 (by omega)]; exact c7) (fun j hj => by rw [ed (1 + 13) (by omega), eb' (1 + 13) (by omega)]; exact c8 j hj) (fun j hj => by rw [d6 j hj, ec 119 (by omega) (by omega)])
      intro k hk
      rw [ed (1 + 1) (by omega), ed (1 + 11) (by omega), ed (1 + 12) (by omega), ed (1 + 2 + 1 + k) (by omega), eb' (1 + 1) (by omega), eb' (1 + 11) (by omega), eb' (1 + 12) (by omega), eb' (1 + 2 + 1 + k) (by omega)]
      exact c5 k hk
    · refine ⟨0, nx, by omega, hnx, ?_, ?_, d5, fun j hj => absurd hj (Nat.not_lt_zero _)⟩
      · rw [ed 29 (by omega), ← hσb, si_j (by omega), c2 29 (by omega)]; exact r1
      · rw [ed 29 (by omega), ← hσb, si_e]; rfl
