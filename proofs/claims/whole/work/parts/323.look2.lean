/-! ===== PURE: the loops over all sets ===== -/
theorem LK_no : ∀ c, c ≤ 69 ∨ c = 118 → LKS.contains c = false := by
  intro c hc
  cases hq : LKS.contains c
  · rfl
  · have h1 : c ∈ LKS := by simpa using hq
    unfold LKS at h1
    simp only [List.mem_cons, List.not_mem_nil, or_false] at h1
    omega
theorem V70_lk {q : Nat} {σ τ : Sg} (h : V70 q σ) (f : FR LKS σ τ) : V70 q τ := V70_fr h (fun c hc => f c (LK_no c hc))
/-- one set that MAY be CHOSEN, noted -/
theorem jone {q S : Nat} {σ τ : Sg} (hq : q ≤ 8) (hS : S < 2 ^ q) (hv : V70 q τ) (h8 : τ.1 118 = σ.1 118) (hc : chB σ q S = true) (hE : EL 71 72 78 q (ets (mA σ) S q) τ) (h4 : τ.1 70 4 = nI (lkf σ q S).1) (h6 : (lkf σ q S).1 ≠ 0 → τ.1 70 6 = nI (lkf σ q S).2.2.1 ∧ τ.1 70 7 = nI (lkf σ q S).2.2.2.1 ∧ (τ.2 70 8).toInt = (lkf σ q S).2.2.2.2) : ∃ τ', j_lookAtOne_70 (nI S) τ = some ((), τ') ∧ FR LKS τ τ' ∧ (∀ j, j ≠ 4 → j ≠ 6 → j ≠ 7 → τ'.1 70 j = τ.1 70 j) ∧ τ'.1 70 4 = nI (lkf σ q (S + 1)).1 ∧ τ'.1 70 6 = nI (lkf σ q (S + 1)).2.2.1 ∧ τ'.1 70 7 = nI (lkf σ q (S + 1)).2.2.2.1 ∧ (τ'.2 70 8).toInt = (lkf σ q (S + 1)).2.2.2.2 := by
  have h2 := pw_256 hq
  have hle := lkf_le σ q S
  obtain ⟨r, τ1, w1, w2, w3⟩ := jsizes hv hS (by rw [chB_fr h8]; exact hc) (by rw [(same118 h8).1]; exact hE)
  rw [szt_fr h8] at w2
  have e70 : τ1.1 70 = τ.1 70 := FR_i w3 (by decide)
  have e70l : τ1.2 70 = τ.2 70 := FR_l w3 (by decide)
  have f1 : FR LKS τ τ1 := FR_mono (by decide) w3
  have g4 : τ1.1 70 4 = nI (lkf σ q S).1 := by rw [e70]; exact h4
  have u1 : (lkf σ q (S + 1)).1 = (lkf σ q S).1 + 1 := by show _ + (if chB σ q S = true then 1 else 0) = _; rw [if_pos hc]
  have u3 : (lkf σ q (S + 1)).2.2.1 = if (lkf σ q S).1 = 0 then S else (lkf σ q S).2.2.1 := by
    show (if chB σ q S = true ∧ (lkf σ q S).1 = 0 then S else (lkf σ q S).2.2.1) = _
    by_cases g : (lkf σ q S).1 = 0
    · rw [if_pos ⟨hc, g⟩, if_pos g]
    · rw [if_neg (fun w => g w.2), if_neg g]
  have u4 : (lkf σ q (S + 1)).2.2.2.1 = if (lkf σ q S).1 = 0 ∨ szt σ q S q < (lkf σ q S).2.2.2.2 then S else (lkf σ q S).2.2.2.1 := by
    show (if chB σ q S = true ∧ ((lkf σ q S).1 = 0 ∨ szt σ q S q < (lkf σ q S).2.2.2.2) then S else (lkf σ q S).2.2.2.1) = _
    by_cases g : (lkf σ q S).1 = 0 ∨ szt σ q S q < (lkf σ q S).2.2.2.2
    · rw [if_pos ⟨hc, g⟩, if_pos g]
    · rw [if_neg (fun w => g w.2), if_neg g]
  have u5 : (lkf σ q (S + 1)).2.2.2.2 = if (lkf σ q S).1 = 0 ∨ szt σ q S q < (lkf σ q S).2.2.2.2 then szt σ q S q else (lkf σ q S).2.2.2.2 := by
    show (if chB σ q S = true ∧ ((lkf σ q S).1 = 0 ∨ szt σ q S q < (lkf σ q S).2.2.2.2) then szt σ q S q else (lkf σ q S).2.2.2.2) = _
    by_cases g : (lkf σ q S).1 = 0 ∨ szt σ q S q < (lkf σ q S).2.2.2.2
    · rw [if_pos ⟨hc, g⟩, if_pos g]
    · rw [if_neg (fun w => g w.2), if_neg g]
  have beg : j_lookAtOne_70 (nI S) τ = if τ1.1 70 4 = 0 then j_lookAtOne_70_b17 (nI S) r (si τ1 70 6 (nI S)) else j_lookAtOne_70_b17 (nI S) r τ1 := by
    unfold j_lookAtOne_70
    rw [w1, bd_s]
  by_cases g : (lkf σ q S).1 = 0
  · have z4 : τ1.1 70 4 = 0 := by rw [g4, g]; rfl
    refine ⟨si (sl (si (si τ1 70 6 (nI S)) 70 7 (nI S)) 70 8 r) 70 4 (nI ((lkf σ q S).1 + 1)), ?_, FR_si (FR_sl (FR_si (FR_si f1 (by decide)) (by decide)) (by decide)) (by decide), ?_, ?_, ?_, ?_, ?_⟩
    · rw [beg, if_pos z4]
      unfold j_lookAtOne_70_b17 j_lookAtOne_70_b33 j_lookAtOne_70_b43
      rw [si_j (show 4 ≠ 6 by decide), if_pos z4, sl_i, si_j (show 4 ≠ 7 by decide), si_j (show 4 ≠ 6 by decide), g4, nI_1]
    · intro j j4 j6 j7
      rw [si_j j4, sl_i, si_j j7, si_j j6, e70]
    · rw [si_e, u1]
    · rw [si_j (by decide), sl_i, si_j (by decide), si_e, u3, if_pos g]
    · rw [si_j (by decide), sl_i, si_e, u4, if_pos (Or.inl g)]
    · rw [si_l, sl_e, w2, u5, if_pos (Or.inl g)]
  · have z4 : ¬ τ1.1 70 4 = 0 := by
      rw [g4]; exact (show ¬ nI (lkf σ q S).1 = 0 from fun w => g ((nI_eq (b := 0) (by omega) (by omega)).mp w))
    obtain ⟨q6, q7, q8⟩ := h6 g
    have hcmp : (0 ≤ lg_cmp r (τ1.2 70 8)) ↔ ¬ szt σ q S q < (lkf σ q S).2.2.2.2 := by
      have hh : lg_cmp r (τ1.2 70 8) < 0 ↔ szt σ q S q < (lkf σ q S).2.2.2.2 := by
        rw [cmp_lt, Int64.lt_iff_toInt_lt, w2, e70l, q8]
      rw [← hh, Int32.not_lt]
    by_cases g2 : szt σ q S q < (lkf σ q S).2.2.2.2
    · refine ⟨si (sl (si τ1 70 7 (nI S)) 70 8 r) 70 4 (nI ((lkf σ q S).1 + 1)), ?_, FR_si (FR_sl (FR_si f1 (by decide)) (by decide)) (by decide), ?_, ?_, ?_, ?_, ?_⟩
      · rw [beg, if_neg z4]
        unfold j_lookAtOne_70_b17 j_lookAtOne_70_b33 j_lookAtOne_70_b43
        rw [if_neg z4, if_neg (fun w => hcmp.mp w g2), sl_i, si_j (show 4 ≠ 7 by decide), g4, nI_1]
      · intro j j4 j6 j7
        rw [si_j j4, sl_i, si_j j7, e70]
      · rw [si_e, u1]
      · rw [si_j (by decide), sl_i, si_j (by decide), e70, q6, u3, if_neg g]
      · rw [si_j (by decide), sl_i, si_e, u4, if_pos (Or.inr g2)]
      · rw [si_l, sl_e, w2, u5, if_pos (Or.inr g2)]
    · have hno : ¬ ((lkf σ q S).1 = 0 ∨ szt σ q S q < (lkf σ q S).2.2.2.2) := by
        rintro (w | w)
        · exact g w
        · exact g2 w
      refine ⟨si τ1 70 4 (nI ((lkf σ q S).1 + 1)), ?_, FR_si f1 (by decide), ?_, ?_, ?_, ?_, ?_⟩
      · rw [beg, if_neg z4]
        unfold j_lookAtOne_70_b17 j_lookAtOne_70_b43
        rw [if_neg z4, if_pos (hcmp.mpr g2), g4, nI_1]
      · intro j j4 j6 j7
        rw [si_j j4, e70]
      · rw [si_e, u1]
      · rw [si_j (by decide), e70, q6, u3, if_neg g]
      · rw [si_j (by decide), e70, q7, u4, if_neg hno]
      · rw [si_l, e70l, q8, u5, if_neg hno]
theorem lkf_same {σ : Sg} {q S : Nat} (hc : ¬ chB σ q S = true) : (lkf σ q (S + 1)).1 = (lkf σ q S).1 ∧ (lkf σ q (S + 1)).2.2 = (lkf σ q S).2.2 := by
  have e1 : (lkf σ q (S + 1)).1 = (lkf σ q S).1 + (if chB σ q S = true then 1 else 0) := rfl
  refine ⟨by rw [e1, if_neg hc]; rfl, ?_⟩
  show ((if chB σ q S = true ∧ (lkf σ q S).1 = 0 then S else (lkf σ q S).2.2.1), (if chB σ q S = true ∧ ((lkf σ q S).1 = 0 ∨ szt σ q S q < (lkf σ q S).2.2.2.2) then S else (lkf σ q S).2.2.2.1), (if chB σ q S = true ∧ ((lkf σ q S).1 = 0 ∨ szt σ q S q < (lkf σ q S).2.2.2.2) then szt σ q S q else (lkf σ q S).2.2.2.2)) = _
  rw [if_neg (fun w => hc w.1), if_neg (fun w => hc w.1), if_neg (fun w => hc w.1)]
theorem jall {q : Nat} {σ : Sg} (hv0 : V70 q σ) (h4 : σ.1 70 4 = 0) (h5 : σ.1 70 5 = 0) : ∃ τ, j_lookAtAll_70_L38 fu 0 σ = some ((), τ) ∧ FR LKS σ τ ∧ τ.1 70 3 = σ.1 70 3 ∧ LKP σ q (2 ^ q) τ := by
  have hq := hv0.1
  have h2 := pw_256 hq
  refine loopE (L := fun m S s => j_lookAtAll_70_L38 m (nI S) s) (N := 2 ^ q) (P := fun S τ => FR LKS σ τ ∧ τ.1 70 3 = σ.1 70 3 ∧ LKP σ q S τ) (Q := fun r => ∃ τ, r = some ((), τ) ∧ FR LKS σ τ ∧ τ.1 70 3 = σ.1 70 3 ∧ LKP σ q (2 ^ q) τ) ?_ ?_ (fu_lt (by omega)) ⟨FR_refl _ _, rfl, h4, h5, fun w => absurd rfl w⟩
  · rintro m S τ hS ⟨f, g3, p4, p5, p6⟩
    have hv := V70_lk hv0 f
    have h8 : τ.1 118 = σ.1 118 := FR_i f (by decide)
    have hle := lkf_le σ q S
    have hrk := RK_le σ q
    have hcn := cnt_le S q
    have e62 : τ.1 62 3 = nI (RK σ q) := by
      have := hv.2.2.2.2.2.2.1
      rw [this, (same118 h8).1]; rfl
    have go : ∀ x, j_lookAtAll_70_b91 (j_lookAtAll_70_L38 m) (nI S) x = j_lookAtAll_70_L38 m (nI (S + 1)) x := by
      intro x; unfold j_lookAtAll_70_b91; rw [nI_1]
    have st : j_lookAtAll_70_L38 (m + 1) (nI S) τ = if cntS S q = RK σ q then bd (j_choose_70 (nI S) (si τ 70 5 (nI ((lkf σ q S).2.1 + 1)))) (fun r2 σ2 => if r2 = 0 then j_lookAtAll_70_L38 m (nI (S + 1)) σ2 else bd (j_lookAtOne_70 (nI S) σ2) fun _ σ3 => j_lookAtAll_70_L38 m (nI (S + 1)) σ3) else j_lookAtAll_70_L38 m (nI (S + 1)) τ := by
      show j_lookAtAll_70_H38 (j_lookAtAll_70_L38 m) (nI S) τ = _
      unfold j_lookAtAll_70_H38
      rw [hv.2.2.1, sh_eq q (by omega), if_neg (nI_ge hS (by omega)), bc_eq hS hq, bd_s, e62, p5, nI_1]
      simp only [go]
      by_cases g : cntS S q = RK σ q
      · rw [if_pos (by rw [g]), if_pos g]
      · rw [if_neg (fun w => g ((nI_eq (by omega) (by omega)).mp w)), if_neg g]
    have u2 : (lkf σ q (S + 1)).2.1 = (lkf σ q S).2.1 + (if cntS S q = RK σ q then 1 else 0) := rfl
    by_cases g : cntS S q = RK σ q
    · have ft : FR LKS σ (si τ 70 5 (nI ((lkf σ q S).2.1 + 1))) := FR_si f (by decide)
      have hvt := V70_lk hv0 ft
      have h8t : (si τ 70 5 (nI ((lkf σ q S).2.1 + 1))).1 118 = σ.1 118 := FR_i ft (by decide)
      have p4t : (si τ 70 5 (nI ((lkf σ q S).2.1 + 1))).1 70 4 = nI (lkf σ q S).1 := by rw [si_j (by decide)]; exact p4
      have p3t : (si τ 70 5 (nI ((lkf σ q S).2.1 + 1))).1 70 3 = σ.1 70 3 := by rw [si_j (by decide)]; exact g3
      have p5t : (si τ 70 5 (nI ((lkf σ q S).2.1 + 1))).1 70 5 = nI (lkf σ q (S + 1)).2.1 := by rw [si_e, u2, if_pos g]
      have p6t : (lkf σ q S).1 ≠ 0 → (si τ 70 5 (nI ((lkf σ q S).2.1 + 1))).1 70 6 = nI (lkf σ q S).2.2.1 ∧ (si τ 70 5 (nI ((lkf σ q S).2.1 + 1))).1 70 7 = nI (lkf σ q S).2.2.2.1 ∧ ((si τ 70 5 (nI ((lkf σ q S).2.1 + 1))).2 70 8).toInt = (lkf σ q S).2.2.2.2 := by
        intro w
        rw [si_j (by decide), si_j (by decide), si_l]; exact p6 w
      rcases jcho70 hvt hS with ⟨gc, τ1, w1, w2, w3⟩ | ⟨gc, τ1, w1, w2⟩
      · rw [chB_fr h8t] at gc
        have f1 : FR LKS σ τ1 := FR_trans ft (FR_mono (by decide) w2)
        have e70 : τ1.1 70 = (si τ 70 5 (nI ((lkf σ q S).2.1 + 1))).1 70 := FR_i w2 (by decide)
        have e70l : τ1.2 70 = (si τ 70 5 (nI ((lkf σ q S).2.1 + 1))).2 70 := FR_l w2 (by decide)
        obtain ⟨τ2, y1, y2, y3, y4, y6, y7, y8⟩ := jone (σ := σ) hq hS (V70_lk hv0 f1) (FR_i f1 (by decide)) gc (by rw [← (same118 h8t).1]; exact w3) (by rw [e70]; exact p4t) (fun w => by rw [e70, e70l]; exact p6t w)
        refine ⟨τ2, by rw [st, if_pos g, w1, bd_s, if_neg (by decide), y1, bd_s], FR_trans f1 y2, ?_, y4, ?_, fun _ => ⟨y6, y7, y8⟩⟩
        · rw [y3 3 (by decide) (by decide) (by decide), e70]; exact p3t
        · rw [y3 5 (by decide) (by decide) (by decide), e70]; exact p5t
      · rw [chB_fr h8t] at gc
        obtain ⟨s1, s2⟩ := lkf_same gc
        have e70 : τ1.1 70 = (si τ 70 5 (nI ((lkf σ q S).2.1 + 1))).1 70 := FR_i w2 (by decide)
        have e70l : τ1.2 70 = (si τ 70 5 (nI ((lkf σ q S).2.1 + 1))).2 70 := FR_l w2 (by decide)
        refine ⟨τ1, by rw [st, if_pos g, w1, bd_s, if_pos rfl], FR_trans ft (FR_mono (by decide) w2), by rw [e70]; exact p3t, ?_, by rw [e70]; exact p5t, ?_⟩
        · rw [e70, s1]; exact p4t
        · rw [s1, s2, e70, e70l]; exact p6t
    · have gc : ¬ chB σ q S = true := fun w => g (chB_iff.mp w).1
      obtain ⟨s1, s2⟩ := lkf_same gc
      refine ⟨τ, by rw [st, if_neg g], f, g3, ?_, ?_, ?_⟩
      · rw [s1]; exact p4
      · rw [u2, if_neg g]; exact p5
      · rw [s1, s2]; exact p6
  · rintro m τ ⟨f, g3, p⟩
    refine ⟨τ, ?_, f, g3, p⟩
    have hv := V70_lk hv0 f
    show j_lookAtAll_70_H38 (j_lookAtAll_70_L38 m) (nI (2 ^ q)) τ = _
    unfold j_lookAtAll_70_H38
    rw [hv.2.2.1, sh_eq q (by omega), if_pos (nI_le (by omega) (by omega))]
/-! the reference's -/
theorem mcount {n q ver : Nat} {σ τ0 : Sg} (h : VV n q ver σ) (h80 : τ0.1 118 = σ.1 118) : ∃ τ, m_chosen_117 τ0 = some (nI (lkf σ q (2 ^ q)).1, τ) ∧ FR [123, 124] τ0 τ := by
  have hq := vq h
  have h2 := pw_256 hq
  unfold m_chosen_117
  refine loopE (L := fun m S s => m_chosen_117_L4 m (nI (lkf σ q S).1) (nI S) s) (N := 2 ^ q) (P := fun S τ => FR [123, 124] τ0 τ) (Q := fun r => ∃ τ, r = some (nI (lkf σ q (2 ^ q)).1, τ) ∧ FR [123, 124] τ0 τ) ?_ ?_ (fu_lt (by omega)) (FR_refl _ _)
  · rintro m S τ hS f
    have h8 : τ.1 118 = σ.1 118 := (FR_i f (by decide)).trans h80
    obtain ⟨τ1, w1, w2⟩ := cho_at (τ := τ) h h8 hS
    refine ⟨τ1, ?_, FR_trans f w2⟩
    show m_chosen_117_H4 (m_chosen_117_L4 m) (nI (lkf σ q S).1) (nI S) τ = m_chosen_117_L4 m (nI ((lkf σ q S).1 + (if chB σ q S = true then 1 else 0))) (nI (S + 1)) τ1
    unfold m_chosen_117_H4 m_chosen_117_b30
    rw [h8, v0 h, sh_eq q (by omega), if_neg (nI_ge hS (by omega)), w1, bd_s]
    by_cases g : chB σ q S = true
    · rw [if_pos g, if_neg (by decide), if_pos g, nI_1, nI_1]
    · rw [if_neg g, if_pos rfl, if_neg g, ad0, nI_1]; rfl
  · rintro m τ f
    refine ⟨τ, ?_, f⟩
    show m_chosen_117_H4 (m_chosen_117_L4 m) _ (nI (2 ^ q)) τ = _
    unfold m_chosen_117_H4
    rw [FR_i f (by decide), h80, v0 h, sh_eq q (by omega), if_pos (nI_le (by omega) (by omega))]
theorem mfirst {n q ver : Nat} {σ τ0 : Sg} (h : VV n q ver σ) (h80 : τ0.1 118 = σ.1 118) : ∃ τ, m_bestSet_117 1 τ0 = some (nI (lkf σ q (2 ^ q)).2.2.1, τ) ∧ FR [123, 124] τ0 τ := by
  have hq := vq h
  have h2 := pw_256 hq
  have hpos := lkf_pos σ q
  rcases lkf_first σ q (2 ^ q) with ⟨w, _⟩ | ⟨_, f2, f3, f4⟩
  · omega
  · unfold m_bestSet_117
    refine loopQ (fun m S s => m_bestSet_117_L7 m 1 (-1) 0 (nI S) s) (2 ^ q) (fun S τ => FR [123, 124] τ0 τ ∧ S ≤ (lkf σ q (2 ^ q)).2.2.1) (fun r => ∃ τ, r = some (nI (lkf σ q (2 ^ q)).2.2.1, τ) ∧ FR [123, 124] τ0 τ) ?_ ?_ (2 ^ q) fu 0 τ0 (by omega) (fu_lt (by omega)) ⟨FR_refl _ _, by omega⟩
    · rintro m S τ hS ⟨f, hle⟩
      have h8 : τ.1 118 = σ.1 118 := (FR_i f (by decide)).trans h80
      obtain ⟨τ1, w1, w2⟩ := cho_at (τ := τ) h h8 hS
      have st : m_bestSet_117_L7 (m + 1) 1 (-1) 0 (nI S) τ = if chB σ q S = true then some (nI S, τ1) else m_bestSet_117_L7 m 1 (-1) 0 (nI (S + 1)) τ1 := by
        show m_bestSet_117_H7 (m_bestSet_117_L7 m) 1 (-1) 0 (nI S) τ = _
        unfold m_bestSet_117_H7 m_bestSet_117_b64
        rw [h8, v0 h, sh_eq q (by omega), if_neg (nI_ge hS (by omega)), w1, bd_s, nI_1]
        by_cases g : chB σ q S = true
        · rw [if_pos g, if_pos g, if_neg (by decide), if_neg (by decide)]
        · rw [if_neg g, if_neg g, if_pos rfl]
      rcases Nat.lt_or_eq_of_le hle with w | w
      · refine Or.inl ⟨τ1, ?_, FR_trans f w2, by omega⟩
        rw [st, if_neg (by rw [f4 S w]; decide)]
      · refine Or.inr ⟨τ1, ?_, FR_trans f w2⟩
        rw [st, w, if_pos f3]
    · rintro m τ ⟨f, hle⟩; omega
theorem mbest {n q ver : Nat} {σ τ0 : Sg} (h : VV n q ver σ) (h80 : τ0.1 118 = σ.1 118) : ∃ τ, m_bestSet_117 0 τ0 = some (nI (lkf σ q (2 ^ q)).2.2.2.1, τ) ∧ FR [123, 124] τ0 τ := by
  have hq := vq h
  have h2 := pw_256 hq
  have hpos := lkf_pos σ q
  unfold m_bestSet_117
  refine loopE (L := fun m S (s : Int32 × Int64 × Sg) => m_bestSet_117_L7 m 0 s.1 s.2.1 (nI S) s.2.2) (N := 2 ^ q) (s := ((-1 : Int32), (0 : Int64), τ0)) (P := fun S s => FR [123, 124] τ0 s.2.2 ∧ ((lkf σ q S).1 = 0 → s.1 = -1) ∧ ((lkf σ q S).1 ≠ 0 → s.1 = nI (lkf σ q S).2.2.2.1 ∧ (lkf σ q S).2.2.2.1 < 256 ∧ s.2.1.toInt = (lkf σ q S).2.2.2.2)) (Q := fun r => ∃ τ, r = some (nI (lkf σ q (2 ^ q)).2.2.2.1, τ) ∧ FR [123, 124] τ0 τ) ?_ ?_ (fu_lt (by omega)) ⟨FR_refl _ _, fun _ => rfl, fun w => absurd rfl w⟩
  · rintro m S ⟨v, l, τ⟩ hS ⟨f, g1, g2⟩
    dsimp only at f g1 g2 ⊢
    have h8 : τ.1 118 = σ.1 118 := (FR_i f (by decide)).trans h80
    obtain ⟨τ1, w1, w2⟩ := cho_at (τ := τ) h h8 hS
    have st : m_bestSet_117_L7 (m + 1) 0 v l (nI S) τ = if chB σ q S = true then (bd (m_sizesOf_117 (nI S) τ1) fun r2 σ2 => if v < 0 then m_bestSet_117_L7 m 0 (nI S) r2 (nI (S + 1)) σ2 else if 0 ≤ (lg_cmp r2 l) then m_bestSet_117_L7 m 0 v l (nI (S + 1)) σ2 else m_bestSet_117_L7 m 0 (nI S) r2 (nI (S + 1)) σ2) else m_bestSet_117_L7 m 0 v l (nI (S + 1)) τ1 := by
      show m_bestSet_117_H7 (m_bestSet_117_L7 m) 0 v l (nI S) τ = _
      unfold m_bestSet_117_H7 m_bestSet_117_b58 m_bestSet_117_b64
      rw [h8, v0 h, sh_eq q (by omega), if_neg (nI_ge hS (by omega)), w1, bd_s, nI_1]
      by_cases g : chB σ q S = true
      · rw [if_pos g, if_pos g, if_neg (by decide), if_pos rfl]
      · rw [if_neg g, if_neg g, if_pos rfl]
    by_cases g : chB σ q S = true
    · obtain ⟨r, τ2, y1, y2, y3⟩ := msizes (τ0 := τ1) h ((show τ1.1 118 = τ.1 118 from FR_i w2 (by decide)).trans h8) hS g
      have f2 := FR_trans f (FR_trans w2 y3)
      have u1 : (lkf σ q (S + 1)).1 = (lkf σ q S).1 + 1 := by show _ + (if chB σ q S = true then 1 else 0) = _; rw [if_pos g]
      have u4 : (lkf σ q (S + 1)).2.2.2.1 = if (lkf σ q S).1 = 0 ∨ szt σ q S q < (lkf σ q S).2.2.2.2 then S else (lkf σ q S).2.2.2.1 := by
        show (if chB σ q S = true ∧ ((lkf σ q S).1 = 0 ∨ szt σ q S q < (lkf σ q S).2.2.2.2) then S else (lkf σ q S).2.2.2.1) = _
        by_cases g : (lkf σ q S).1 = 0 ∨ szt σ q S q < (lkf σ q S).2.2.2.2
        · rw [if_pos ⟨by assumption, g⟩, if_pos g]
        · rw [if_neg (fun w => g w.2), if_neg g]
      have u5 : (lkf σ q (S + 1)).2.2.2.2 = if (lkf σ q S).1 = 0 ∨ szt σ q S q < (lkf σ q S).2.2.2.2 then szt σ q S q else (lkf σ q S).2.2.2.2 := by
        show (if chB σ q S = true ∧ ((lkf σ q S).1 = 0 ∨ szt σ q S q < (lkf σ q S).2.2.2.2) then szt σ q S q else (lkf σ q S).2.2.2.2) = _
        by_cases g : (lkf σ q S).1 = 0 ∨ szt σ q S q < (lkf σ q S).2.2.2.2
        · rw [if_pos ⟨by assumption, g⟩, if_pos g]
        · rw [if_neg (fun w => g w.2), if_neg g]
      by_cases c0 : (lkf σ q S).1 = 0
      · refine ⟨(nI S, r, τ2), ?_, f2, fun w => by rw [u1] at w; omega, fun _ => ⟨?_, ?_, ?_⟩⟩
        · rw [st, if_pos g, y1, bd_s, if_pos (by rw [g1 c0]; decide)]
        · rw [u4, if_pos (Or.inl c0)]
        · rw [u4, if_pos (Or.inl c0)]; omega
        · rw [u5, if_pos (Or.inl c0)]; exact y2
      · obtain ⟨q1, q2, q3⟩ := g2 c0
        have hvn : ¬ v < 0 := by rw [q1]; exact nI_pos (by omega)
        have hcmp : (0 ≤ lg_cmp r l) ↔ ¬ szt σ q S q < (lkf σ q S).2.2.2.2 := by
          have hh : lg_cmp r l < 0 ↔ szt σ q S q < (lkf σ q S).2.2.2.2 := by
            rw [cmp_lt, Int64.lt_iff_toInt_lt, y2, q3]
          rw [← hh, Int32.not_lt]
        by_cases c1 : szt σ q S q < (lkf σ q S).2.2.2.2
        · refine ⟨(nI S, r, τ2), ?_, f2, fun w => by rw [u1] at w; omega, fun _ => ⟨?_, ?_, ?_⟩⟩
          · rw [st, if_pos g, y1, bd_s, if_neg hvn, if_neg (fun w => hcmp.mp w c1)]
          · rw [u4, if_pos (Or.inr c1)]
          · rw [u4, if_pos (Or.inr c1)]; omega
          · rw [u5, if_pos (Or.inr c1)]; exact y2
        · have hno : ¬ ((lkf σ q S).1 = 0 ∨ szt σ q S q < (lkf σ q S).2.2.2.2) := by
            rintro (w | w)
            · exact c0 w
            · exact c1 w
          refine ⟨(v, l, τ2), ?_, f2, fun w => by rw [u1] at w; omega, fun _ => ⟨?_, ?_, ?_⟩⟩
          · rw [st, if_pos g, y1, bd_s, if_neg hvn, if_pos (hcmp.mpr c1)]
          · rw [u4, if_neg hno]; exact q1
          · rw [u4, if_neg hno]; exact q2
          · rw [u5, if_neg hno]; exact q3
    · obtain ⟨s1, s2⟩ := lkf_same g
      refine ⟨(v, l, τ1), by rw [st, if_neg g], FR_trans f w2, ?_, ?_⟩
      · rw [s1]; exact g1
      · rw [s1, s2]; exact g2
  · rintro m ⟨v, l, τ⟩ ⟨f, g1, g2⟩
    dsimp only at f g1 g2 ⊢
    refine ⟨τ, ?_, f⟩
    show m_bestSet_117_H7 (m_bestSet_117_L7 m) 0 v l (nI (2 ^ q)) τ = _
    unfold m_bestSet_117_H7
    rw [FR_i f (by decide), h80, v0 h, sh_eq q (by omega), if_pos (nI_le (by omega) (by omega)), (g2 (by omega)).1]
theorem modds {n q ver : Nat} {v1 : Int32} {σ τ0 : Sg} (h : VV n q ver σ) (h80 : τ0.1 118 = σ.1 118) : m_odds_117_L29 fu v1 0 (nI (RK σ q)) 0 τ0 = bd (m_chosen_117 τ0) fun r1 σ1 => bd (m_partOf_s r1.toInt64 (nI (lkf σ q (2 ^ q)).2.1).toInt64 v1 σ1) fun r2 σ2 => some (r2, σ2) := by
  have hq := vq h
  have h2 := pw_256 hq
  have hrk := RK_le σ q
  refine loopE (L := fun m S (_ : Unit) => m_odds_117_L29 m v1 (nI (lkf σ q S).2.1) (nI (RK σ q)) (nI S) τ0) (N := 2 ^ q) (s := ()) (P := fun _ _ => True) (Q := fun r => r = bd (m_chosen_117 τ0) fun r1 σ1 => bd (m_partOf_s r1.toInt64 (nI (lkf σ q (2 ^ q)).2.1).toInt64 v1 σ1) fun r2 σ2 => some (r2, σ2)) ?_ ?_ (fu_lt (by omega)) trivial
  · rintro m S _ hS _
    have hcn := cnt_le S q
    refine ⟨(), ?_, trivial⟩
    show m_odds_117_H29 (m_odds_117_L29 m) v1 (nI (lkf σ q S).2.1) (nI (RK σ q)) (nI S) τ0 = m_odds_117_L29 m v1 (nI ((lkf σ q S).2.1 + (if cntS S q = RK σ q then 1 else 0))) (nI (RK σ q)) (nI (S + 1)) τ0
    unfold m_odds_117_H29 m_odds_117_b57
    rw [h80, v0 h, sh_eq q (by omega), if_neg (nI_ge hS (by omega)), mbits hS hq, bd_s]
    by_cases g : cntS S q = RK σ q
    · rw [if_pos (by rw [g]), if_pos g, nI_1, nI_1]
    · rw [if_neg (fun w => g ((nI_eq (by omega) (by omega)).mp w)), if_neg g, ad0, nI_1]; rfl
  · rintro m _ _
    show m_odds_117_H29 (m_odds_117_L29 m) v1 _ (nI (RK σ q)) (nI (2 ^ q)) τ0 = _
    unfold m_odds_117_H29
    rw [h80, v0 h, sh_eq q (by omega), if_pos (nI_le (by omega) (by omega))]
