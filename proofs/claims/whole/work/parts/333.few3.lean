/-! ===== PURE: fewest as a call ===== -/
theorem jtake5 {l s w : Nat} {σ : Sg} (hl : l < 3) (hs : s ≤ 40) (hw : w ≤ 5) (h1 : σ.1 112 l = nI s) (hL : ∀ i, i < 40 → σ.1 (108 + 1 + l) i = σ.1 127 (40 * l + i)) : ((∀ i, i < w → nok (nbr σ l s i)) → ∃ σ', j_takeNumbers_0_115 (nI l) (nI w) σ = some (1, σ') ∧ FR [115] σ σ' ∧ ∀ i, i < w → σ'.1 115 i = nbr σ l s i) ∧ ((¬ ∀ i, i < w → nok (nbr σ l s i)) → ∃ σ', j_takeNumbers_0_115 (nI l) (nI w) σ = some (0, σ') ∧ FR [115] σ σ') := by
  have fl : ∀ l, l < 3 → ([115] : List Nat).contains (108 + 1 + l) = false := by decide
  have step : ∀ k i τ, i < w → FR [115] σ τ → j_takeNumbers_0_115_L3 (k + 1) (nI l) (nI w) (nI i) τ = if nok (nbr σ l s i) then j_takeNumbers_0_115_L3 k (nI l) (nI w) (nI (i + 1)) (si τ 115 i (nbr σ l s i)) else some (0, si τ 115 i (nbr σ l s i)) := by
    intro k i τ hi f
    have e1 : τ.1 112 l = nI s := by rw [FR_i f (by decide)]; exact h1
    have b35 : ∀ v, j_takeNumbers_0_115_b35 (j_takeNumbers_0_115_L3 k) (nI l) (nI w) (nI i) (nI i) v τ = if nok v then j_takeNumbers_0_115_L3 k (nI l) (nI w) (nI (i + 1)) (si τ 115 i v) else some (0, si τ 115 i v) := by
      intro v
      unfold j_takeNumbers_0_115_b35 j_takeNumbers_0_115_b54
      rw [inB_t (by omega) (by omega), gd_t, gd_t, gd_t, cl_n (by omega), si_e, nI_1]
      by_cases g1 : v < -99
      · rw [if_pos g1, if_neg (fun h => (nok_lt.mpr h).1 g1)]
      · rw [if_neg g1]
        by_cases g2 : v ≤ 99
        · rw [if_pos g2, if_pos (nok_lt.mp ⟨g1, g2⟩)]
        · rw [if_neg g2, if_neg (fun h => g2 (nok_lt.mpr h).2)]
    show j_takeNumbers_0_115_H3 (j_takeNumbers_0_115_L3 k) (nI l) (nI w) (nI i) τ = _
    unfold j_takeNumbers_0_115_H3
    rw [if_neg (nI_ge hi (by omega))]
    by_cases g : i < s
    · rw [jpl_in hl hs e1 g, bd_s, if_neg (by decide), inB_t hl (by omega), gd_t, cl_n (by omega), ar_lis hl (by omega), gd_t, cl_n (by omega), b35]
      have : τ.1 (108 + 1 + l) i = nbr σ l s i := by
        rw [FR_i f (fl l hl), hL i (by omega)]; unfold nbr; rw [if_pos g]
      rw [this]
    · rw [jpl_out hl e1 (Or.inr (nI_le (by omega) (by omega))), bd_s, if_pos rfl, b35]
      have : nbr σ l s i = 0 := by unfold nbr; rw [if_neg g]
      rw [this]
  unfold j_takeNumbers_0_115
  constructor
  · intro hok
    refine loopE (L := fun k i τ => j_takeNumbers_0_115_L3 k (nI l) (nI w) (nI i) τ) (N := w) (P := fun i τ => FR [115] σ τ ∧ ∀ j, j < i → τ.1 115 j = nbr σ l s j) (Q := fun r => ∃ σ', r = some (1, σ') ∧ FR [115] σ σ' ∧ ∀ i, i < w → σ'.1 115 i = nbr σ l s i) ?_ ?_ (fu_lt (by omega)) ⟨FR_refl _ _, fun j h => absurd h (Nat.not_lt_zero _)⟩
    · rintro k i τ hi ⟨f, g⟩
      refine ⟨si τ 115 i (nbr σ l s i), ?_, FR_si f (by decide), ?_⟩
      · try dsimp only
        rw [step k i τ hi f, if_pos (hok i hi)]
      · intro j hj
        by_cases e : j = i
        · subst e; rw [si_e]
        · rw [si_j e]; exact g j (by omega)
    · rintro k τ ⟨f, g⟩
      refine ⟨τ, ?_, f, g⟩
      show j_takeNumbers_0_115_H3 (j_takeNumbers_0_115_L3 k) (nI l) (nI w) (nI w) τ = _
      unfold j_takeNumbers_0_115_H3
      rw [if_pos (nI_le (by omega) (by omega))]
  · intro hno
    simp only [Classical.not_forall] at hno
    obtain ⟨x, hx, hxn⟩ := hno
    refine loopQ (fun k i τ => j_takeNumbers_0_115_L3 k (nI l) (nI w) (nI i) τ) w (fun i τ => FR [115] σ τ ∧ i ≤ x) (fun r => ∃ σ', r = some (0, σ') ∧ FR [115] σ σ') ?_ ?_ w fu 0 σ (by omega) (fu_lt (by omega)) ⟨FR_refl _ _, by omega⟩
    · rintro k i τ hi ⟨f, g⟩
      try dsimp only
      rw [step k i τ hi f]
      by_cases hk : nok (nbr σ l s i)
      · rw [if_pos hk]
        refine Or.inl ⟨_, rfl, FR_si f (by decide), ?_⟩
        have : i ≠ x := fun e => hxn (e ▸ hk)
        omega
      · rw [if_neg hk]
        exact Or.inr ⟨_, rfl, FR_si f (by decide)⟩
    · rintro k τ ⟨f, g⟩; omega
theorem op_fewest {n q ver : Nat} {σ : Sg} (hn : n < 512) (h : VV n q ver σ) (a b : Int32) : ∃ r σ1 σ2, j_fewest_0 a b σ = some (r, σ1) ∧ m_fewest_117 a b σ1 = some (r, σ2) ∧ VI (n + 1) σ2 := by
  have hq := vq h
  unfold j_fewest_0 j_fewest_0_b70 m_fewest_117
  rcases in_out a (q := 3) (by decide) with o | ⟨l, hl, rfl⟩
  · refine ⟨-1, rj 1 σ, rm 1 (rj 1 σ), ?_, ?_, fin_ref hn (by omega) (by omega) h (Kp_refl _) (Kp_refl _)⟩
    · rw [jli_out o, bd_s, if_pos rfl, jr1, bd_s]
    · rw [mli_out o, bd_s, if_pos rfl, mr1, bd_s]
  · rcases list_cases h hl with ⟨e1, e2⟩ | ⟨s, hs, e1, e2⟩
    · refine ⟨-11, σ, σ, ?_, ?_, fin_kp hn h (Kp_refl _)⟩
      · rw [jli_in hl, bd_s, if_neg (by decide), jmi_no hl e1, bd_s, if_neg (by decide)]
      · rw [mli_in hl, bd_s, if_neg (by decide), inB_t hl (by omega), gd_t, cl_n (by omega), e2, if_neg (by decide), mr11, bd_s]
    · have ht := jtake5 (w := 5) hl hs (Nat.le_refl _) e1 (vL h hl)
      by_cases g : ∀ i, i < 5 → nok (nbr σ l s i)
      · obtain ⟨σ1, w1, w2, w3⟩ := ht.1 g
        have w1' : j_takeNumbers_0_115 (nI l) 5 σ = some (1, σ1) := w1
        have k1 : Kp σ σ1 := Kp_S w2 (by decide)
        have hv1 := VV_kp h k1
        by_cases hb : -1 ≤ b
        · obtain ⟨σ2, f2, y2⟩ := jfa (W := fun u => (nbr σ l s u).toInt) hv1 hb (fun u hu => by rw [w3 u hu])
          have k2 : Kp σ1 σ2 := Kp_S f2 (by decide)
          have hv2 := VV_kp hv1 k2
          have hn2 : ∀ i, nbr σ2 l s i = nbr σ l s i := fun i => by rw [nbr_fr (K127 k2), nbr_fr (K127 k1)]
          obtain ⟨σ3, x1, x2, x3⟩ := tell_ok (w := 5) hv2 hl hs (by omega) (by rw [K126 k2, K126 k1]; exact e2) (fun i hi => by rw [hn2]; exact g i hi)
          have x1' : m_tells_117 (nI l) 5 σ2 = some (1, σ3) := x1
          have k3 : Kp σ2 σ3 := Kp_S x2 (by decide)
          have hv3 := VV_kp hv2 k3
          have hcopy : ∃ σ4, m_fewest_117_L57 fu b 0 σ3 = (bd (m_fewestOf_117 b σ4) fun r1 σ1 => some (r1, σ1)) ∧ FR [130] σ3 σ4 ∧ ∀ u, u < 5 → σ4.1 130 u = nbr σ l s u := by
            refine loopE (L := fun m u s => m_fewest_117_L57 m b (nI u) s) (N := 5) (P := fun u τ => FR [130] σ3 τ ∧ ∀ u', u' < u → τ.1 130 u' = nbr σ l s u') (Q := fun r => ∃ σ4, r = (bd (m_fewestOf_117 b σ4) fun r1 σ1 => some (r1, σ1)) ∧ FR [130] σ3 σ4 ∧ ∀ u, u < 5 → σ4.1 130 u = nbr σ l s u) ?_ ?_ (by decide) ⟨FR_refl _ _, fun u h => absurd h (Nat.not_lt_zero _)⟩
            · rintro m u τ hu ⟨fr, gg⟩
              refine ⟨si τ 130 u (nbr σ l s u), ?_, FR_si fr (by decide), ?_⟩
              · show m_fewest_117_H57 (m_fewest_117_L57 m) b (nI u) τ = _
                unfold m_fewest_117_H57
                rw [if_neg (show ¬ (5 : Int32) ≤ nI u from nI_ge (b := 5) hu (by decide)), inB_t (by omega) (by omega), inB_t hu (by omega), gd_t, gd_t, cl_n (by omega), FR_i fr (by decide), x3 u hu, hn2, nI_1]
              · intro u' hu'
                by_cases e : u' = u
                · rw [e, si_e]
                · rw [si_j e]; exact gg u' (by omega)
            · rintro m τ ⟨fr, gg⟩
              refine ⟨τ, ?_, fr, gg⟩
              show m_fewest_117_H57 (m_fewest_117_L57 m) b (nI 5) τ = _
              unfold m_fewest_117_H57
              rw [if_pos (show (5 : Int32) ≤ nI 5 by decide)]
          obtain ⟨σ4, z1, z2, z3⟩ := hcopy
          have k4 : Kp σ3 σ4 := Kp_S z2 (by decide)
          obtain ⟨σ5, u1, u2⟩ := mfo (W := fun u => (nbr σ l s u).toInt) (τ0 := σ4) h ((K118 k4).trans ((K118 k3).trans ((K118 k2).trans (K118 k1)))) hb (fun u hu => by rw [z3 u hu])
          have hfw : ∀ W e len, fwf σ1 q W e len = fwf σ q W e len := by
            have hfz : fvz σ1 = fvz σ := by
              funext f u; unfold fvz dZ; rw [Kdm k1]
            have hfs : ∀ d v, fws σ1 q d v = fws σ q d v := by
              intro d
              induction d with
              | zero => intro v; rfl
              | succ d ih =>
                intro v
                unfold fws
                have : (fun f => fws σ1 q d (fun u => v u - fvz σ1 f u)) = (fun f => fws σ q d (fun u => v u - fvz σ f u)) := by
                  funext f; rw [ih, hfz]
                rw [this]
            intro W e
            induction e with
            | zero => intro len; rfl
            | succ e ih => intro len; unfold fwf; rw [hfs, ih]
          rw [hfw] at y2
          refine ⟨fwv (fwf σ q (fun u => (nbr σ l s u).toInt) 4 0) b, σ2, σ5, ?_, ?_, fin_kp hn hv3 (Kp_trans k4 (Kp_S u1 (by decide)))⟩
          · rw [jli_in hl, bd_s, if_neg (by decide), jmi hl hs e1, bd_s, if_pos rfl, w1', bd_s, if_neg (by decide), if_pos hb, y2, bd_s]
          · rw [mli_in hl, bd_s, if_neg (by decide), inB_t hl (by omega), gd_t, if_pos (m_126 hl hs (by rw [K126 k2, K126 k1]; exact e2)), x1', bd_s, if_neg (by decide), if_pos hb, z1, u2, bd_s]
        · have e2' : (rj 4 σ1).1 126 l = nI s := by rw [rj_c (by decide), K126 k1]; exact e2
          obtain ⟨σ2, x1, x2, x3⟩ := mtell (σ := rj 4 σ1) (w := 5) hl hs (by omega) e2'
          rw [if_pos (fun i hi => by rw [nbr_fr (σ := σ) (σ' := rj 4 σ1) (by rw [rj_c (by decide), K127 k1])]; exact g i hi)] at x1
          have x1' : m_tells_117 (nI l) 5 (rj 4 σ1) = some (1, σ2) := x1
          refine ⟨-4, rj 4 σ1, rm 4 σ2, ?_, ?_, fin_ref hn (by omega) (by omega) h k1 (Kp_S x2 (by decide))⟩
          · rw [jli_in hl, bd_s, if_neg (by decide), jmi hl hs e1, bd_s, if_pos rfl, w1', bd_s, if_neg (by decide), if_neg hb, jr4, bd_s]
          · rw [mli_in hl, bd_s, if_neg (by decide), inB_t hl (by omega), gd_t, if_pos (m_126 hl hs e2'), x1', bd_s, if_neg (by decide), if_neg hb, mr4, bd_s]
      · obtain ⟨σ1, w1, w2⟩ := ht.2 g
        have w1' : j_takeNumbers_0_115 (nI l) 5 σ = some (0, σ1) := w1
        have k1 : Kp σ σ1 := Kp_S w2 (by decide)
        have e2' : (rj 3 σ1).1 126 l = nI s := by rw [rj_c (by decide), K126 k1]; exact e2
        obtain ⟨σ2, x1, x2, x3⟩ := mtell (σ := rj 3 σ1) (w := 5) hl hs (by omega) e2'
        rw [if_neg (fun w => g (fun i hi => by have := w i hi; rw [nbr_fr (σ := σ) (σ' := rj 3 σ1) (by rw [rj_c (by decide), K127 k1])] at this; exact this))] at x1
        have x1' : m_tells_117 (nI l) 5 (rj 3 σ1) = some (0, σ2) := x1
        refine ⟨-3, rj 3 σ1, rm 3 σ2, ?_, ?_, fin_ref hn (by omega) (by omega) h k1 (Kp_S x2 (by decide))⟩
        · rw [jli_in hl, bd_s, if_neg (by decide), jmi hl hs e1, bd_s, if_pos rfl, w1', bd_s, if_pos rfl, jr3, bd_s]
        · rw [mli_in hl, bd_s, if_neg (by decide), inB_t hl (by omega), gd_t, if_pos (m_126 hl hs e2'), x1', bd_s, if_pos rfl, mr3, bd_s]
