/-! ===== PURE: pure, cover ===== -/
theorem nbr_fr {σ σ' : Sg} (h : σ'.1 127 = σ.1 127) (l s i : Nat) : nbr σ' l s i = nbr σ l s i := by unfold nbr; rw [h]
theorem vL {n q ver : Nat} {σ : Sg} (h : VV n q ver σ) {l : Nat} (hl : l < 3) : ∀ i, i < 40 → σ.1 (108 + 1 + l) i = σ.1 127 (40 * l + i) := (h.2.2.2.2.2.2.1 l hl).2
/-- the list's numbers, as both take them -/
theorem take_both {n q ver l s w : Nat} {σ : Sg} (h : VV n q ver σ) (hl : l < 3) (hs : s ≤ 40) (hw : w ≤ 8) (h1 : σ.1 112 l = nI s) : ((∀ i, i < w → nok (nbr σ l s i)) ∧ ∃ σ', j_takeNumbers_0_114 (nI l) (nI w) σ = some (1, σ') ∧ FR [114] σ σ' ∧ ∀ i, i < w → σ'.1 114 i = nbr σ l s i) ∨ ((¬ ∀ i, i < w → nok (nbr σ l s i)) ∧ ∃ σ', j_takeNumbers_0_114 (nI l) (nI w) σ = some (0, σ') ∧ FR [114] σ σ') := by
  have ht := jtake hl hs hw h1 (vL h hl)
  by_cases g : ∀ i, i < w → nok (nbr σ l s i)
  · exact Or.inl ⟨g, ht.1 g⟩
  · exact Or.inr ⟨g, ht.2 g⟩
theorem tell_ok {n q ver l s w : Nat} {σ : Sg} (h : VV n q ver σ) (hl : l < 3) (hs : s ≤ 40) (hw : w ≤ 8) (h1 : σ.1 126 l = nI s) (g : ∀ i, i < w → nok (nbr σ l s i)) : ∃ σ', m_tells_117 (nI l) (nI w) σ = some (1, σ') ∧ FR [128] σ σ' ∧ ∀ i, i < w → σ'.1 128 i = nbr σ l s i := by
  obtain ⟨σ', w1, w2, w3⟩ := mtell (σ := σ) hl hs hw h1
  rw [if_pos g] at w1
  exact ⟨σ', w1, w2, w3⟩
theorem tell_no {n q ver l s w : Nat} {σ : Sg} (h : VV n q ver σ) (hl : l < 3) (hs : s ≤ 40) (hw : w ≤ 8) (h1 : σ.1 126 l = nI s) (g : ¬ ∀ i, i < w → nok (nbr σ l s i)) : ∃ σ', m_tells_117 (nI l) (nI w) σ = some (0, σ') ∧ FR [128] σ σ' := by
  obtain ⟨σ', w1, w2, w3⟩ := mtell (σ := σ) hl hs hw h1
  rw [if_neg g] at w1
  exact ⟨σ', w1, w2⟩
theorem K112 {σ σ' : Sg} (k : Kp σ σ') (l : Nat) : σ'.1 112 l = σ.1 112 l := K_i k (by unfold kp; omega) l
theorem K126 {σ σ' : Sg} (k : Kp σ σ') (l : Nat) : σ'.1 126 l = σ.1 126 l := K_i k (by unfold kp; omega) l
theorem K127 {σ σ' : Sg} (k : Kp σ σ') : σ'.1 127 = σ.1 127 := (k.1 127 (by unfold kp; omega)).1
theorem K118 {σ σ' : Sg} (k : Kp σ σ') : σ'.1 118 = σ.1 118 := (k.1 118 (by unfold kp; omega)).1
theorem Kdm {σ σ' : Sg} (k : Kp σ σ') : dm σ' = dm σ := dm_fr (K118 k)
theorem K1 {σ σ' : Sg} (k : Kp σ σ') (j : Nat) : σ'.1 1 j = σ.1 1 j := K_i k (by unfold kp; omega) j
theorem m_126 {σ : Sg} {l s : Nat} (hl : l < 3) (hs : s ≤ 40) (h : σ.1 126 l = nI s) : 0 ≤ σ.1 126 (nI l).toNatClampNeg := by
  rw [cl_n (by omega), h]; exact nI_pos' (by omega)
theorem op_pure {n q ver : Nat} {σ : Sg} (hn : n < 512) (h : VV n q ver σ) (a : Int32) : ∃ r σ1 σ2, j_pure_0 a σ = some (r, σ1) ∧ m_pure_117 a σ1 = some (r, σ2) ∧ VI (n + 1) σ2 := by
  have hq := vq h
  have h1 := (v_118 h).2.1
  unfold j_pure_0 j_pure_0_b69 m_pure_117 m_pure_117_b61
  rcases in_out a (q := 3) (by decide) with o | ⟨l, hl, rfl⟩
  · refine ⟨-1, rj 1 σ, rm 1 (rj 1 σ), ?_, ?_, fin_ref hn (by omega) (by omega) h (Kp_refl _) (Kp_refl _)⟩
    · rw [jli_out o, bd_s, if_pos rfl, jr1, bd_s]
    · rw [mli_out o, bd_s, if_pos rfl, mr1, bd_s]
  · rcases list_cases h hl with ⟨e1, e2⟩ | ⟨s, hs, e1, e2⟩
    · refine ⟨-11, σ, σ, ?_, ?_, fin_kp hn h (Kp_refl _)⟩
      · rw [jli_in hl, bd_s, if_neg (by decide), jmi_no hl e1, bd_s, if_neg (by decide)]
      · rw [mli_in hl, bd_s, if_neg (by decide), inB_t hl (by omega), gd_t, cl_n (by omega), e2, if_neg (by decide), mr11, bd_s]
    · rcases take_both h hl hs hq e1 with ⟨g, σ1, w1, w2, w3⟩ | ⟨g, σ1, w1, w2⟩
      · have k1 : Kp σ σ1 := Kp_S w2 (by decide)
        have hv1 := VV_kp h k1
        have g1 : ∀ i, i < q → nok (nbr σ1 l s i) := fun i hi => by rw [nbr_fr (K127 k1)]; exact g i hi
        obtain ⟨σ2, x1, x2, x3⟩ := tell_ok hv1 hl hs hq (by rw [K126 k1]; exact e2) g1
        have k2 : Kp σ1 σ2 := Kp_S x2 (by decide)
        have hv2 := VV_kp hv1 k2
        have hj : j_isPureProduct_51_114 σ1 = some (pu (σ1.1 114) σ1 q 5, σ1) := jpp hv1 (fun k hk => by rw [w3 k hk]; exact g k hk)
        have hm : m_isToldPure_117 σ2 = some (pu (σ1.1 114) σ1 q 5, σ2) := by
          rw [mtp hq (v0 hv2), pu_cg (f := σ1.1 114) (σ := σ1) (Kdm k2) (fun j hj => by rw [x3 j hj, w3 j hj, nbr_fr (K127 k1)])]
        have r01 : ∀ x : Int32, (x = 0 ∨ x = 1) → ∀ τ : Sg, (if x = 0 then some ((0 : Int32), τ) else some (1, τ)) = some (x, τ) := by
          rintro x (rfl | rfl) τ <;> rfl
        have hx : pu (σ1.1 114) σ1 q 5 = 0 ∨ pu (σ1.1 114) σ1 q 5 = 1 := by
          rcases pu_01 (σ1.1 114) σ1 q 5 with ⟨e, _⟩ | ⟨e, _⟩
          · exact Or.inr e
          · exact Or.inl e
        refine ⟨pu (σ1.1 114) σ1 q 5, σ1, σ2, ?_, ?_, fin_kp hn hv1 k2⟩
        · rw [jli_in hl, bd_s, if_neg (by decide), jmi hl hs e1, bd_s, if_pos rfl, h1, w1, bd_s, if_neg (by decide), hj, bd_s, r01 _ hx]
        · rw [mli_in hl, bd_s, if_neg (by decide), inB_t hl (by omega), gd_t, if_pos (m_126 hl hs (by rw [K126 k1]; exact e2)), v0 hv1, x1, bd_s, if_neg (by decide), hm, bd_s, r01 _ hx]
      · have k1 : Kp σ σ1 := Kp_S w2 (by decide)
        have e2' : (rj 3 σ1).1 126 l = nI s := by rw [rj_c (by decide), K126 k1]; exact e2
        obtain ⟨σ2, x1, x2, x3⟩ := mtell (σ := rj 3 σ1) (w := q) hl hs hq e2'
        rw [if_neg (fun w => g (fun i hi => by have := w i hi; rw [nbr_fr (σ := σ) (σ' := rj 3 σ1) (by rw [rj_c (by decide), K127 k1])] at this; exact this))] at x1
        refine ⟨-3, rj 3 σ1, rm 3 σ2, ?_, ?_, fin_ref hn (by omega) (by omega) h k1 (Kp_S x2 (by decide))⟩
        · rw [jli_in hl, bd_s, if_neg (by decide), jmi hl hs e1, bd_s, if_pos rfl, h1, w1, bd_s, if_pos rfl, jr3, bd_s]
        · rw [mli_in hl, bd_s, if_neg (by decide), inB_t hl (by omega), gd_t, if_pos (m_126 hl hs e2'), rj_118, K118 k1, v0 h, x1, bd_s, if_pos rfl, mr3, bd_s]
