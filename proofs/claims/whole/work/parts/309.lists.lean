/-! ===== PURE: list, judge, lays ===== -/
theorem jfill_x {c m : Nat} (hc : ck c = 0) (hm : al c = m) (hm2 : m < 2000) (σ : Sg) : ∃ σ', j_fillAII_x c 0 σ = some ((), σ') ∧ FR [c] σ σ' ∧ σ'.2 = σ.2 ∧ ∀ j, j < m → σ'.1 c j = 0 := by
  unfold j_fillAII_x
  rw [show ckB c = true by unfold ckB; rw [hc]; rfl, hm, gd_t]
  refine loopE (L := fun k i s => j_fillAII_x_L5 k c 0 (nI i) (nI m) s) (N := m) (P := fun i τ => FR [c] σ τ ∧ τ.2 = σ.2 ∧ ∀ j, j < i → τ.1 c j = 0) (Q := fun r => ∃ σ', r = some ((), σ') ∧ FR [c] σ σ' ∧ σ'.2 = σ.2 ∧ ∀ j, j < m → σ'.1 c j = 0) ?_ ?_ (fu_lt (by omega)) ⟨FR_refl _ _, rfl, fun p h => absurd h (Nat.not_lt_zero _)⟩
  · rintro k i τ hi ⟨f, f2, g⟩
    refine ⟨si τ c i 0, ?_, FR_si f (FR_0 _), f2, ?_⟩
    · show j_fillAII_x_H5 (j_fillAII_x_L5 k) c 0 (nI i) (nI m) τ = _
      unfold j_fillAII_x_H5
      rw [if_neg (nI_ge hi (by omega)), ar_t hc hm hi (by omega), gd_t, cl_n (by omega), nI_1]
    · intro p hp
      by_cases e : p = i
      · subst e; rw [si_e]
      · rw [si_j e]; exact g p (by omega)
  · rintro k τ ⟨f, f2, g⟩
    refine ⟨τ, ?_, f, f2, g⟩
    show j_fillAII_x_H5 (j_fillAII_x_L5 k) c 0 (nI m) (nI m) τ = _
    unfold j_fillAII_x_H5
    rw [if_pos (nI_le (by omega) (by omega))]
theorem i40 (l i : Nat) : (40 : Int32) * nI l + nI i = nI (40 * l + i) := by rw [show (40 : Int32) = nI 40 from rfl, nI_mul, nI_add]
theorem mlist_l {l : Nat} (hl : l < 3) (σ : Sg) : ∃ σ', m_list_117_L46 fu (nI l) 0 σ = some (1, σ') ∧ FR [127] σ σ' ∧ σ'.2 = σ.2 ∧ ∀ j, j < 120 → σ'.1 127 j = if 40 * l ≤ j ∧ j < 40 * l + 40 then 0 else σ.1 127 j := by
  refine loopE (L := fun k i s => m_list_117_L46 k (nI l) (nI i) s) (N := 40) (P := fun i τ => FR [127] σ τ ∧ τ.2 = σ.2 ∧ ∀ j, j < 120 → τ.1 127 j = if 40 * l ≤ j ∧ j < 40 * l + i then 0 else σ.1 127 j) (Q := fun r => ∃ σ', r = some (1, σ') ∧ FR [127] σ σ' ∧ σ'.2 = σ.2 ∧ ∀ j, j < 120 → σ'.1 127 j = if 40 * l ≤ j ∧ j < 40 * l + 40 then 0 else σ.1 127 j) ?_ ?_ (by decide) ⟨FR_refl _ _, rfl, fun j _ => (if_neg (by omega)).symm⟩
  · rintro k i τ hi ⟨f, f2, g⟩
    refine ⟨si τ 127 (40 * l + i) 0, ?_, FR_si f (by decide), f2, ?_⟩
    · show m_list_117_H46 (m_list_117_L46 k) (nI l) (nI i) τ = _
      unfold m_list_117_H46
      rw [if_neg (show ¬ (40 : Int32) ≤ nI i from nI_ge (b := 40) hi (by decide)), i40, inB_t (by omega) (by omega), gd_t, cl_n (by omega), nI_1]
    · intro j hj
      by_cases e : j = 40 * l + i
      · subst e; rw [si_e, if_pos (by omega)]
      · rw [si_j e, g j hj]
        by_cases e2 : 40 * l ≤ j ∧ j < 40 * l + i
        · rw [if_pos e2, if_pos (by omega)]
        · rw [if_neg e2, if_neg (by omega)]
  · rintro k τ ⟨f, f2, g⟩
    refine ⟨τ, ?_, f, f2, g⟩
    show m_list_117_H46 (m_list_117_L46 k) (nI l) (nI 40) τ = _
    unfold m_list_117_H46
    rw [if_pos (show (40 : Int32) ≤ nI 40 by decide)]
theorem lis_c : ∀ l, l < 3 → ∀ c, ([108 + 1 + l] : List Nat).contains c = false → c ≠ 108 + 1 + l := by
  intro l _ c h e
  rw [e, FR_0] at h; cases h
/-- only the lists have changed -/
theorem VV_lists {n q ver : Nat} {σ σ' : Sg} (h : VV n q ver σ) (hF : FR [79, 113, 123, 124, 109, 110, 111, 112, 126, 127] σ σ') (hLI : LI σ') : VV n q ver σ' := by
  have hk : ∀ c, (c ≤ 106 ∧ c ≠ 0 ∧ c ≠ 79) ∨ c = 118 ∨ c = 119 ∨ c = 122 ∨ c = 107 ∨ c = 121 ∨ c = 116 ∨ c = 120 ∨ c = 117 ∨ c = 0 → ([79, 113, 123, 124, 109, 110, 111, 112, 126, 127] : List Nat).contains c = false := by
    intro c hc
    cases hq : ([79, 113, 123, 124, 109, 110, 111, 112, 126, 127] : List Nat).contains c
    · rfl
    · have h1 : c ∈ ([79, 113, 123, 124, 109, 110, 111, 112, 126, 127] : List Nat) := by simpa using hq
      simp only [List.mem_cons, List.not_mem_nil, or_false] at h1
      omega
  obtain ⟨a1, a2, a3, a4, a5, a6, a7, a8, a9, a10, a11, a12, a13⟩ := h
  have e : ∀ c, (c ≤ 106 ∧ c ≠ 0 ∧ c ≠ 79) ∨ c = 118 ∨ c = 119 ∨ c = 122 ∨ c = 107 ∨ c = 121 ∨ c = 116 ∨ c = 120 ∨ c = 117 ∨ c = 0 → σ'.1 c = σ.1 c := fun c hc => FR_i hF (hk c hc)
  have e2 : ∀ c, (c ≤ 106 ∧ c ≠ 0 ∧ c ≠ 79) → σ'.2 c = σ.2 c := fun c hc => FR_l hF (hk c (Or.inl hc))
  exact ⟨a1, a2, a3, MR_fr a3 a4 (e 118 (by omega)) (fun c _ _ => e c (by omega)), IM_fr a5 (by rw [e 0 (by omega)]) (fun c _ _ => e c (by omega)) (e 119 (by omega)) (by rw [e 117 (by omega)]), LR_fr a6 (by rw [e 0 (by omega)]) (e 107 (by omega)) (e 121 (by omega)) (by rw [e 117 (by omega)]), hLI, RF_fr a8 (e 116 (by omega)) (e 120 (by omega)), HR_fr a9 (fun c _ _ => e c (by omega)) (e 122 (by omega)) (by rw [e 117 (by omega)]), SP_fr a3 a10 (e 118 (by omega)) (fun c _ _ => ⟨e c (by omega), e2 c (by omega)⟩), by rw [e 51 (by omega)]; exact a11, CCh_fr a12 (e 70 (by omega)) (e 118 (by omega)), CSe_fr a13 (e 80 (by omega)) (e 81 (by omega)) (e 104 (by omega)) (e 118 (by omega))⟩
theorem lis_F : ∀ l, l < 3 → ([108 + 1 + l] : List Nat).all (fun x => ([79, 113, 123, 124, 109, 110, 111, 112, 126, 127] : List Nat).contains x) = true := by decide
theorem lis_S : ∀ l, l < 3 → ([79, 113, 123, 124, 109, 110, 111, 112, 126, 127] : List Nat).contains (108 + 1 + l) = true := by decide
theorem op_list {n q ver : Nat} {σ : Sg} (hn : n < 512) (h : VV n q ver σ) (a b : Int32) : ∃ r σ1 σ2, j_list_0 a b σ = some (r, σ1) ∧ m_list_117 a b σ1 = some (r, σ2) ∧ VI (n + 1) σ2 := by
  have hq := vq h
  unfold j_list_0 m_list_117
  rcases in_out a (q := 3) (by decide) with o | ⟨l, hl, rfl⟩
  · refine ⟨-1, rj 1 σ, rm 1 (rj 1 σ), ?_, ?_, fin_ref hn (by omega) (by omega) h (Kp_refl _) (Kp_refl _)⟩
    · rw [jli_out o, bd_s, if_pos rfl, jr1, bd_s]
    · rw [mli_out o, bd_s, if_pos rfl, mr1, bd_s]
  · by_cases g1 : b ≤ 40
    · by_cases g2 : 0 ≤ b
      · obtain ⟨s, hs, rfl⟩ : ∃ s : Nat, s ≤ 40 ∧ b = nI s := by
          have w1 := (le_l (b := 40) (by omega)).mp g1
          have w2 := (ge_l (b := 0) (by omega)).mp g2
          exact ⟨b.toInt.toNat, by omega, of_t (by omega) (by omega)⟩
        obtain ⟨σ1, w1, w2, w3, w4⟩ := jfill_x (ckT_lis l hl).1 (ckT_lis l hl).2 (by omega) σ
        obtain ⟨σ2, x1, x2, x3, x4⟩ := mlist_l hl (si (si σ1 112 l (nI s)) 126 l (nI s))
        have hF : FR [79, 113, 123, 124, 109, 110, 111, 112, 126, 127] σ σ2 := FR_trans (FR_si (FR_si (FR_mono (lis_F l hl) w2) (by decide)) (by decide)) (FR_mono (by decide) x2)
        refine ⟨1, si σ1 112 l (nI s), σ2, ?_, ?_, q, ver, VV_up hn (VV_lists h hF ?_)⟩
        · rw [jli_in hl, bd_s, if_neg (by decide), if_pos g1, if_pos g2, inB_t hl (by omega), gd_t, cl_n (by omega), w1, bd_s, gd_t]
        · rw [mli_in hl, bd_s, if_neg (by decide), if_pos g1, if_pos g2, inB_t hl (by omega), gd_t, cl_n (by omega), x1]
        · intro m hm
          have hL := h.2.2.2.2.2.2.1 m hm
          have e112 : σ2.1 112 m = if m = l then nI s else σ.1 112 m := by
            rw [FR_i x2 (by decide), si_c (by omega)]
            by_cases e : m = l
            · subst e; rw [si_e, if_pos rfl]
            · rw [si_j e, FR_i w2 (FR_1 (by omega)), if_neg e]
          have e126 : σ2.1 126 m = if m = l then nI s else σ.1 126 m := by
            rw [FR_i x2 (by decide)]
            by_cases e : m = l
            · subst e; rw [si_e, if_pos rfl]
            · rw [si_j e, si_c (by omega), FR_i w2 (FR_1 (by omega)), if_neg e]
          refine ⟨?_, ?_⟩
          · rw [e112, e126]
            by_cases e : m = l
            · rw [if_pos e, if_pos e]; exact Or.inr ⟨s, hs, rfl, rfl⟩
            · rw [if_neg e, if_neg e]; exact hL.1
          · intro i hi
            rw [x4 _ (by omega), FR_i x2 (FR_1 (by omega)), si_c (by omega), si_c (by omega)]
            by_cases e : m = l
            · subst e; rw [w4 i (by omega), if_pos (by omega)]
            · rw [if_neg (by omega), FR_i w2 (FR_1 (by omega)), si_c (by omega), si_c (by omega), FR_i w2 (FR_1 (by omega))]
              exact hL.2 i hi
      · refine ⟨-14, σ, σ, ?_, ?_, fin_kp hn h (Kp_refl _)⟩
        · rw [jli_in hl, bd_s, if_neg (by decide), if_pos g1, if_neg g2]
        · rw [mli_in hl, bd_s, if_neg (by decide), if_pos g1, if_neg g2, mr14, bd_s]
    · refine ⟨-6, rj 6 σ, rm 6 (rj 6 σ), ?_, ?_, fin_ref hn (by omega) (by omega) h (Kp_refl _) (Kp_refl _)⟩
      · rw [jli_in hl, bd_s, if_neg (by decide), if_neg g1, jr6, bd_s]
      · rw [mli_in hl, bd_s, if_neg (by decide), if_neg g1, mr6, bd_s]
theorem d5m : ∀ i, i < 40 → nI i / 5 = nI (i / 5) ∧ irm (nI i) 5 = nI (i % 5) := by decide +kernel
theorem op_judge {n q ver : Nat} {σ : Sg} (hn : n < 512) (h : VV n q ver σ) (a : Int32) : ∃ r σ1 σ2, j_judge_0 a σ = some (r, σ1) ∧ m_judge_117 a σ1 = some (r, σ2) ∧ VI (n + 1) σ2 := by
  have hq := vq h
  have h1 := (v_118 h).2.1
  unfold j_judge_0 m_judge_117
  rcases in_out a (q := 3) (by decide) with o | ⟨l, hl, rfl⟩
  · refine ⟨-1, rj 1 σ, rm 1 (rj 1 σ), ?_, ?_, fin_ref hn (by omega) (by omega) h (Kp_refl _) (Kp_refl _)⟩
    · rw [jli_out o, bd_s, if_pos rfl, jr1, bd_s]
    · rw [mli_out o, bd_s, if_pos rfl, mr1, bd_s]
  · rcases list_cases h hl with ⟨e1, e2⟩ | ⟨s, hs, e1, e2⟩
    · refine ⟨-11, σ, σ, ?_, ?_, fin_kp hn h (Kp_refl _)⟩
      · rw [jli_in hl, bd_s, if_neg (by decide), jmi_no hl e1, bd_s, if_neg (by decide)]
      · rw [mli_in hl, bd_s, if_neg (by decide), inB_t hl (by omega), gd_t, cl_n (by omega), e2, if_neg (by decide), mr11, bd_s]
    · have key : ∃ r, j_judge_0_L26 fu (nI l) 0 σ = some (r, σ) ∧ m_judge_117_L31 fu (nI l) 0 σ = some (r, σ) := by
        have main : ∀ d m i, i + d = s → d < m → ∃ r, j_judge_0_L26 m (nI l) (nI i) σ = some (r, σ) ∧ m_judge_117_L31 m (nI l) (nI i) σ = some (r, σ) := by
          intro d
          induction d with
          | zero =>
            intro m i hi hm
            obtain ⟨m, rfl⟩ : ∃ k, m = k + 1 := ⟨m - 1, by omega⟩
            refine ⟨-9, ?_, ?_⟩
            · show j_judge_0_H26 (j_judge_0_L26 m) (nI l) (nI i) σ = _
              unfold j_judge_0_H26
              rw [inB_t hl (by omega), gd_t, cl_n (by omega), e1, if_pos (nI_le (by omega) (by omega))]
            · show m_judge_117_H31 (m_judge_117_L31 m) (nI l) (nI i) σ = _
              unfold m_judge_117_H31
              rw [inB_t hl (by omega), gd_t, cl_n (by omega), e2, if_pos (nI_le (by omega) (by omega))]
          | succ d ih =>
            intro m i hi hm
            obtain ⟨m, rfl⟩ : ∃ k, m = k + 1 := ⟨m - 1, by omega⟩
            obtain ⟨ih1, ih2, ih3⟩ := ih m (i + 1) (by omega) (by omega)
            obtain ⟨dd, rr⟩ := d5m i (by omega)
            have hm5 : i % 5 < 5 := Nat.mod_lt _ (by omega)
            by_cases g : i / 5 < q
            · have hc : σ.1 (108 + 1 + l) i = σ.1 127 (40 * l + i) := vL h hl i (by omega)
              have sj : j_judge_0_L26 (m + 1) (nI l) (nI i) σ = if σ.1 127 (40 * l + i) = dm σ (i / 5) (i % 5) then j_judge_0_L26 m (nI l) (nI (i + 1)) σ else some (nI i, σ) := by
                show j_judge_0_H26 (j_judge_0_L26 m) (nI l) (nI i) σ = _
                unfold j_judge_0_H26 j_judge_0_b72
                rw [inB_t hl (by omega), gd_t, cl_n (by omega), e1, if_neg (nI_ge (by omega) (by omega)), dd, rr, jq_in hq h1 g, bd_s, if_neg (by decide), gd_t, ar_lis hl (by omega), gd_t, inB_t (by omega) (by omega), gd_t, cl_n (by omega), ar_pow (by omega) hm5, gd_t, cl_n (by omega), cl_n (by omega), (vSP h).2.1 _ _ g hm5, hc, nI_1]
              have sm : m_judge_117_L31 (m + 1) (nI l) (nI i) σ = if σ.1 127 (40 * l + i) = dm σ (i / 5) (i % 5) then m_judge_117_L31 m (nI l) (nI (i + 1)) σ else some (nI i, σ) := by
                show m_judge_117_H31 (m_judge_117_L31 m) (nI l) (nI i) σ = _
                unfold m_judge_117_H31 m_judge_117_b77
                rw [inB_t hl (by omega), gd_t, cl_n (by omega), e2, if_neg (nI_ge (by omega) (by omega)), v0 h, show (5 : Int32) * nI q = nI (5 * q) by rw [show (5 : Int32) = nI 5 from rfl, nI_mul], if_neg (nI_ge (by omega) (by omega)), i40, inB_t (by omega) (by omega), gd_t, dd, rr, mpw (by omega) hm5, bd_s, cl_n (by omega), nI_1]
              rw [sj, sm]
              by_cases e : σ.1 127 (40 * l + i) = dm σ (i / 5) (i % 5)
              · rw [if_pos e, if_pos e]; exact ⟨ih1, ih2, ih3⟩
              · rw [if_neg e, if_neg e]; exact ⟨nI i, rfl, rfl⟩
            · refine ⟨nI i, ?_, ?_⟩
              · show j_judge_0_H26 (j_judge_0_L26 m) (nI l) (nI i) σ = _
                unfold j_judge_0_H26 j_judge_0_b72
                rw [inB_t hl (by omega), gd_t, cl_n (by omega), e1, if_neg (nI_ge (by omega) (by omega)), dd, jq_out h1 (Or.inr (nI_le (by omega) (by omega))), bd_s, if_pos rfl]
              · show m_judge_117_H31 (m_judge_117_L31 m) (nI l) (nI i) σ = _
                unfold m_judge_117_H31 m_judge_117_b77
                rw [inB_t hl (by omega), gd_t, cl_n (by omega), e2, if_neg (nI_ge (by omega) (by omega)), v0 h, show (5 : Int32) * nI q = nI (5 * q) by rw [show (5 : Int32) = nI 5 from rfl, nI_mul], if_pos (nI_le (by omega) (by omega))]
        exact main s fu 0 (by omega) (fu_lt (by omega))
      obtain ⟨r, k1, k2⟩ := key
      refine ⟨r, σ, σ, ?_, ?_, fin_kp hn h (Kp_refl _)⟩
      · rw [jli_in hl, bd_s, if_neg (by decide), jmi hl hs e1, bd_s, if_pos rfl, k1]
      · rw [mli_in hl, bd_s, if_neg (by decide), inB_t hl (by omega), gd_t, if_pos (m_126 hl hs e2), k2]
