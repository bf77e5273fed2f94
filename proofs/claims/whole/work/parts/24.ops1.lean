/-! ===== PURE: letter, list, put, look, taken, count's easy ones ===== -/
/-- the parts of VV that a change of letters, lists, .. leaves -/
theorem VV_parts {n q ver : Nat} {σ σ' : Sg} (h : VV n q ver σ) (hc : ∀ c, (c ≤ 106 ∧ c ≠ 0) ∨ c = 118 ∨ c = 119 ∨ c = 122 → σ'.1 c = σ.1 c) (hl : ∀ c, c ≤ 106 → σ'.2 c = σ.2 c) (h02 : σ'.1 0 2 = σ.1 0 2) (hm2 : σ'.1 117 2 = σ.1 117 2) (hm7 : σ'.1 117 7 = σ.1 117 7) (hLR : LR σ') (hLI : LI σ') (hRF : RF σ') : VV n q ver σ' := by
  obtain ⟨a1, a2, a3, a4, a5, a6, a7, a8, a9, a10, a11, a12, a13⟩ := h
  exact ⟨a1, a2, a3, MR_fr a3 a4 (hc 118 (by omega)) (fun c _ _ => hc c (by omega)), IM_fr a5 h02 (fun c _ _ => hc c (by omega)) (hc 119 (by omega)) hm2, hLR, hLI, hRF, HR_fr a9 (fun c _ _ => hc c (by omega)) (hc 122 (by omega)) hm7, SP_fr a3 a10 (hc 118 (by omega)) (fun c _ _ => ⟨hc c (by omega), hl c (by omega)⟩), by rw [hc 51 (by omega)]; exact a11, CCh_fr a12 (hc 70 (by omega)) (hc 118 (by omega)), CSe_fr a13 (hc 80 (by omega)) (hc 81 (by omega)) (hc 104 (by omega)) (hc 118 (by omega))⟩
theorem lt_of_not {a : Int32} (h : ¬ 0 ≤ a) : a < 0 := Int32.not_le.mp h
theorem op_letter {n q ver : Nat} {σ : Sg} (hn : n < 512) (h : VV n q ver σ) (a : Int32) : ∃ r σ1 σ2, j_letter_0 a σ = some (r, σ1) ∧ m_letter_117 a σ1 = some (r, σ2) ∧ VI (n + 1) σ2 := by
  have h6 := h.2.2.2.2.2.1
  obtain ⟨c, hc, h9, h5, hL⟩ := h6
  by_cases g0 : 0 ≤ a
  · by_cases g1 : 255 < a
    · refine ⟨-6, rj 6 σ, rm 6 (rj 6 σ), ?_, ?_, fin_ref hn (by omega) (by omega) h (Kp_refl _) (Kp_refl _)⟩
      · unfold j_letter_0; rw [if_pos g0, if_pos g1]; rfl
      · unfold m_letter_117; rw [if_pos g0, if_pos g1]; rfl
    · by_cases g2 : c = 72
      · refine ⟨-6, rj 6 σ, rm 6 (rj 6 σ), ?_, ?_, fin_ref hn (by omega) (by omega) h (Kp_refl _) (Kp_refl _)⟩
        · unfold j_letter_0; rw [if_pos g0, if_neg g1, h9, if_neg (show ¬ nI c < 72 from nI_nlt (b := 72) (by omega) (by omega))]; rfl
        · unfold m_letter_117; rw [if_pos g0, if_neg g1, rj_c (by decide), h5, if_pos (show nI c = 72 by rw [g2]; rfl)]; rfl
      · have hcl : (nI c).toNatClampNeg = c := cl_n (by omega)
        obtain ⟨x, hx, rfl⟩ : ∃ x, x < 256 ∧ a = nI x := by
          rcases in_out a (q := 256) (by decide) with o | o
          · rcases o with o | o
            · exact absurd o (Int32.not_lt.mpr g0)
            · have o' := Int32.le_iff_toInt_le.mp o
              have g1' : a.toInt ≤ 255 := by
                have := Int32.le_iff_toInt_le.mp (Int32.not_lt.mp g1)
                simpa using this
              have e : (nI 256).toInt = 256 := by decide
              omega
          · exact o
        refine ⟨nI (c + 1), si (si σ 107 c (nI x)) 0 9 (nI (c + 1)), si (si (si (si σ 107 c (nI x)) 0 9 (nI (c + 1))) 121 c (nI x)) 117 5 (nI (c + 1)), ?_, ?_, ?_⟩
        · unfold j_letter_0
          rw [if_pos g0, if_neg g1, h9, if_pos (show nI c < 72 from nI_lt (b := 72) (by omega) (by omega)), inB_t (by omega) (by omega), gd_t]
          simp (disch := decide) only [hcl, si_e, si_c, h9, nI_1]
        · unfold m_letter_117
          have e5 : (si (si σ 107 c (nI x)) 0 9 (nI (c + 1))).1 117 5 = nI c := by
            simp (disch := decide) only [si_c, h5]
          rw [if_pos g0, if_neg g1, e5, if_neg (show ¬ nI c = 72 from fun e => g2 ((nI_eq (b := 72) (by omega) (by decide)).mp e)), inB_t (by omega) (by omega), gd_t]
          simp (disch := decide) only [hcl, si_e, si_c, h5, nI_1]
        · refine ⟨q, ver, VV_up hn (VV_parts h ?_ ?_ ?_ ?_ ?_ ?_ ?_ ?_)⟩
          · intro c' hc'
            rw [si_c (by omega), si_c (by omega), si_c (by omega), si_c (by omega)]
          · intro c' hc'; rfl
          · rw [si_c (by omega), si_c (by omega), si_j (by omega), si_c (by omega)]
          · rw [si_j (by omega), si_c (by omega), si_c (by omega), si_c (by omega)]
          · rw [si_j (by omega), si_c (by omega), si_c (by omega), si_c (by omega)]
          · refine ⟨c + 1, by omega, ?_, si_e, ?_⟩
            · rw [si_c (by omega), si_c (by omega), si_e]
            · intro j hj
              rw [si_c (by omega : (107 : Nat) ≠ 117), si_c (by omega : (107 : Nat) ≠ 121), si_c (by omega : (107 : Nat) ≠ 0), si_c (by omega : (121 : Nat) ≠ 117)]
              by_cases e : j = c
              · subst e; rw [si_e, si_e]; exact ⟨rfl, x, hx, rfl⟩
              · rw [si_j e, si_j e, si_c (by omega : (121 : Nat) ≠ 0), si_c (by omega : (121 : Nat) ≠ 107)]
                exact hL j (by omega)
          · exact LI_fr h.2.2.2.2.2.2.1 (fun c' _ _ => by rw [si_c (by omega), si_c (by omega), si_c (by omega), si_c (by omega)]) (by rw [si_c (by omega), si_c (by omega), si_c (by omega), si_c (by omega)]) (by rw [si_c (by omega), si_c (by omega), si_c (by omega), si_c (by omega)])
          · exact RF_fr h.2.2.2.2.2.2.2.1 (by rw [si_c (by omega), si_c (by omega), si_c (by omega), si_c (by omega)]) (by rw [si_c (by omega), si_c (by omega), si_c (by omega), si_c (by omega)])
  · refine ⟨-4, rj 4 σ, rm 4 (rj 4 σ), ?_, ?_, fin_ref hn (by omega) (by omega) h (Kp_refl _) (Kp_refl _)⟩
    · unfold j_letter_0; rw [if_neg g0]; rfl
    · unfold m_letter_117; rw [if_neg g0]; rfl
/-! lists -/
theorem list_cases {n q ver : Nat} {σ : Sg} (h : VV n q ver σ) {l : Nat} (hl : l < 3) : (σ.1 112 l = -11 ∧ σ.1 126 l = -1) ∨ ∃ s, s ≤ 40 ∧ σ.1 112 l = nI s ∧ σ.1 126 l = nI s := (h.2.2.2.2.2.2.1 l hl).1
theorem jmi {σ : Sg} {l s : Nat} (hl : l < 3) (hs : s ≤ 40) (h : σ.1 112 l = nI s) : j_isMissing_0 (nI l) σ = some (0, σ) := by
  unfold j_isMissing_0
  rw [inB_t hl (by omega), gd_t, cl_n (by omega), h, if_pos (nI_pos' (by omega))]; rfl
theorem jmi_no {σ : Sg} {l : Nat} (hl : l < 3) (h : σ.1 112 l = -11) : j_isMissing_0 (nI l) σ = some (1, σ) := by
  unfold j_isMissing_0
  rw [inB_t hl (by omega), gd_t, cl_n (by omega), h, if_neg (by decide)]; rfl
theorem jpl_in {σ : Sg} {l s i : Nat} (hl : l < 3) (hs : s ≤ 40) (h : σ.1 112 l = nI s) (hi : i < s) : j_isPlace_0 (nI l) (nI i) σ = some (1, σ) := by
  unfold j_isPlace_0
  rw [if_neg (nI_pos (by omega)), inB_t hl (by omega), gd_t, cl_n (by omega), h, if_neg (nI_ge hi (by omega))]; rfl
theorem jpl_out {σ : Sg} {l s : Nat} {a : Int32} (hl : l < 3) (h : σ.1 112 l = nI s) (ho : out a s) : j_isPlace_0 (nI l) a σ = some (0, σ) := by
  unfold j_isPlace_0
  by_cases h1 : a < 0
  · rw [if_pos h1]; rfl
  · rcases ho with ho | ho
    · exact absurd ho h1
    · rw [if_neg h1, inB_t hl (by omega), gd_t, cl_n (by omega), h, if_pos ho]; rfl
theorem mce_in {σ : Sg} {l s i : Nat} (hl : l < 3) (hs : s ≤ 40) (h : σ.1 126 l = nI s) (hi : i < s) : m_isCell_117 (nI l) (nI i) σ = some (1, σ) := by
  unfold m_isCell_117
  rw [inB_t hl (by omega), gd_t, cl_n (by omega), h, show (0 : Int64) = (0 : Int32).toInt64 by decide, mi_in (q := s) (pred_eq (by omega)) hi (by omega)]; rfl
theorem mce_out {σ : Sg} {l s : Nat} {a : Int32} (hl : l < 3) (hs : s ≤ 40) (h : σ.1 126 l = nI s) (ho : out a s) : m_isCell_117 (nI l) a σ = some (0, σ) := by
  unfold m_isCell_117
  rw [inB_t hl (by omega), gd_t, cl_n (by omega), h, show (0 : Int64) = (0 : Int32).toInt64 by decide, mi_out (q := s) (pred_toInt (by omega)) (by omega) ho]; rfl
theorem mwc_in {σ : Sg} {l s i : Nat} (hl : l < 3) (hs : s ≤ 40) (h : σ.1 126 l = nI s) (hi : i < s) : m_wrongCell_117 (nI l) (nI i) σ = some (0, σ) := by
  unfold m_wrongCell_117
  rw [mli_in hl, bd_s, if_neg (by decide), inB_t hl (by omega), gd_t, cl_n (by omega), h, if_pos (nI_pos' (by omega)), mce_in hl hs h hi]; rfl
theorem mwc_out {σ : Sg} {l s : Nat} {a : Int32} (hl : l < 3) (hs : s ≤ 40) (h : σ.1 126 l = nI s) (ho : out a s) : m_wrongCell_117 (nI l) a σ = some (13, σ) := by
  unfold m_wrongCell_117
  rw [mli_in hl, bd_s, if_neg (by decide), inB_t hl (by omega), gd_t, cl_n (by omega), h, if_pos (nI_pos' (by omega)), mce_out hl hs h ho]; rfl
theorem mwc_no {σ : Sg} {l : Nat} {a : Int32} (hl : l < 3) (h : σ.1 126 l = -1) : m_wrongCell_117 (nI l) a σ = some (11, σ) := by
  unfold m_wrongCell_117
  rw [mli_in hl, bd_s, if_neg (by decide), inB_t hl (by omega), gd_t, cl_n (by omega), h, if_neg (by decide)]; rfl
theorem mwc_bad {σ : Sg} {a b : Int32} (ho : out b 3) : m_wrongCell_117 b a σ = some (1, σ) := by
  unfold m_wrongCell_117
  rw [mli_out ho, bd_s, if_pos rfl]; rfl
theorem op_look {n q ver : Nat} {σ : Sg} (hn : n < 512) (h : VV n q ver σ) (a b : Int32) : ∃ r σ1 σ2, j_look_0 a b σ = some (r, σ1) ∧ m_look_117 a b σ1 = some (r, σ2) ∧ VI (n + 1) σ2 := by
  unfold j_look_0 m_look_117
  rcases in_out a (q := 3) (by decide) with o | ⟨l, hl, rfl⟩
  · refine ⟨_, rj 1 σ, _, by rw [jli_out o]; rfl, by rw [mwc_bad o]; rfl, fin_ref hn (by omega) (by omega) h (Kp_refl _) (Kp_refl _)⟩
  · rcases list_cases h hl with ⟨e1, e2⟩ | ⟨s, hs, e1, e2⟩
    · exact ⟨_, σ, σ, by rw [jli_in hl, bd_s, if_neg (by decide), jmi_no hl e1]; rfl, by rw [mwc_no hl e2]; rfl, fin_kp hn h (Kp_refl _)⟩
    · rcases in_out b (q := s) (by omega) with o | ⟨i, hi, rfl⟩
      · exact ⟨_, σ, σ, by rw [jli_in hl, bd_s, if_neg (by decide), jmi hl hs e1, bd_s, if_pos rfl, jpl_out hl e1 o]; rfl, by rw [mwc_out hl hs e2 o]; rfl, fin_kp hn h (Kp_refl _)⟩
      · refine ⟨σ.1 127 (40 * l + i), σ, σ, ?_, ?_, fin_kp hn h (Kp_refl _)⟩
        · rw [jli_in hl, bd_s, if_neg (by decide), jmi hl hs e1, bd_s, if_pos rfl, jpl_in hl hs e1 hi, bd_s, if_neg (by decide), inB_t hl (by omega), gd_t, cl_n (by omega), ar_lis hl (by omega), gd_t, cl_n (by omega)]
          rw [(h.2.2.2.2.2.2.1 l hl).2 i (by omega)]; rfl
        · rw [mwc_in hl hs e2 hi, bd_s, if_pos rfl, show (40 : Int32) * nI l + nI i = nI (40 * l + i) by rw [show (40 : Int32) = nI 40 from rfl, nI_mul, nI_add], inB_t (by omega) (by omega), gd_t, cl_n (by omega)]; rfl
theorem LI_set {σ : Sg} {l i : Nat} {v : Int32} (h : LI σ) (hl : l < 3) (hi : i < 40) : LI (si (si σ (108 + 1 + l) i v) 127 (40 * l + i) v) := by
  intro m hm
  refine ⟨?_, ?_⟩
  · rw [si_c (by omega), si_c (by omega), si_c (by omega), si_c (by omega)]; exact (h m hm).1
  · intro k hk
    rw [si_c (by omega)]
    by_cases e : m = l ∧ k = i
    · obtain ⟨rfl, rfl⟩ := e; rw [si_e, si_e]
    · rw [si_j (by omega : 40 * m + k ≠ 40 * l + i), si_c (by omega : (127 : Nat) ≠ 108 + 1 + l), ← (h m hm).2 k hk]
      by_cases e2 : m = l
      · subst e2; rw [si_j (by omega)]
      · rw [si_c (by omega)]
theorem op_put {n q ver : Nat} {σ : Sg} (hn : n < 512) (h : VV n q ver σ) (a b c : Int32) : ∃ r σ1 σ2, j_put_0 a b c σ = some (r, σ1) ∧ m_put_117 a b c σ1 = some (r, σ2) ∧ VI (n + 1) σ2 := by
  unfold j_put_0 m_put_117
  rcases in_out a (q := 3) (by decide) with o | ⟨l, hl, rfl⟩
  · refine ⟨_, rj 1 σ, _, by rw [jli_out o]; rfl, by rw [mwc_bad o]; rfl, fin_ref hn (by omega) (by omega) h (Kp_refl _) (Kp_refl _)⟩
  · rcases list_cases h hl with ⟨e1, e2⟩ | ⟨s, hs, e1, e2⟩
    · exact ⟨_, σ, σ, by rw [jli_in hl, bd_s, if_neg (by decide), jmi_no hl e1]; rfl, by rw [mwc_no hl e2]; rfl, fin_kp hn h (Kp_refl _)⟩
    · rcases in_out b (q := s) (by omega) with o | ⟨i, hi, rfl⟩
      · exact ⟨_, σ, σ, by rw [jli_in hl, bd_s, if_neg (by decide), jmi hl hs e1, bd_s, if_pos rfl, jpl_out hl e1 o]; rfl, by rw [mwc_out hl hs e2 o]; rfl, fin_kp hn h (Kp_refl _)⟩
      · refine ⟨1, si σ (108 + 1 + l) i c, si (si σ (108 + 1 + l) i c) 127 (40 * l + i) c, ?_, ?_, ?_⟩
        · rw [jli_in hl, bd_s, if_neg (by decide), jmi hl hs e1, bd_s, if_pos rfl, jpl_in hl hs e1 hi, bd_s, if_neg (by decide), inB_t hl (by omega), gd_t, cl_n (by omega), ar_lis hl (by omega), gd_t, cl_n (by omega)]
        · rw [mwc_in hl hs (by rw [si_c (by omega)]; exact e2) hi, bd_s, if_pos rfl, show (40 : Int32) * nI l + nI i = nI (40 * l + i) by rw [show (40 : Int32) = nI 40 from rfl, nI_mul, nI_add], inB_t (by omega) (by omega), gd_t, cl_n (by omega)]
        · refine ⟨q, ver, VV_up hn (VV_parts h ?_ ?_ ?_ ?_ ?_ ?_ (LI_set h.2.2.2.2.2.2.1 hl (by omega)) ?_)⟩
          · intro c' hc'; rw [si_c (by omega), si_c (by omega)]
          · intro c' hc'; rfl
          · rw [si_c (by omega), si_c (by omega)]
          · rw [si_c (by omega), si_c (by omega)]
          · rw [si_c (by omega), si_c (by omega)]
          · exact LR_fr h.2.2.2.2.2.1 (by rw [si_c (by omega), si_c (by omega)]) (by rw [si_c (by omega), si_c (by omega)]) (by rw [si_c (by omega), si_c (by omega)]) (by rw [si_c (by omega), si_c (by omega)])
          · exact RF_fr h.2.2.2.2.2.2.2.1 (by rw [si_c (by omega), si_c (by omega)]) (by rw [si_c (by omega), si_c (by omega)])
