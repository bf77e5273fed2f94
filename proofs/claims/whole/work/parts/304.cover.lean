/-! ===== PURE: cover ===== -/
theorem own_out {n q ver : Nat} {a : Int32} {σ τ : Sg} (h : VV n q ver σ) (h8 : τ.1 118 = σ.1 118) (ho : out a (cntS (LZ σ q) q)) : ∃ σ', m_ownOf_117 a τ = some (-1, σ') ∧ FR [123, 124] τ σ' := by
  obtain ⟨e1, e2, e3, e4, e5⟩ := same118 (σ := σ) (τ := τ) h8
  exact mown_out (by rw [h8]; exact v0 h) (vq h) (by rw [e1, e2]; exact vA h) (by rw [e4]; exact ho)
theorem own_in {n q ver i x : Nat} {σ τ : Sg} (h : VV n q ver σ) (h8 : τ.1 118 = σ.1 118) (hx : nth (LZ σ q) q 0 i = some x) (hi : i < cntS (LZ σ q) q) : ∃ σ', m_ownOf_117 (nI i) τ = some (nI x, σ') ∧ FR [123, 124] τ σ' := by
  obtain ⟨e1, e2, e3, e4, e5⟩ := same118 (σ := σ) (τ := τ) h8
  have := cnt_le (LZ σ q) q
  have := vq h
  exact mown_in (by rw [h8]; exact v0 h) (vq h) (by rw [e1, e2]; exact vA h) (by rw [e4]; exact hx) (by omega)
theorem grp_ok {n q ver x : Nat} {σ τ : Sg} (h : VV n q ver σ) (h8 : τ.1 118 = σ.1 118) (hx : x < q) (hl : ¬ (PV σ q).testBit x = true) : ∃ σ', m_groups_117 (nI x) τ = some ((), σ') ∧ FR [123, 124] τ σ' ∧ ∀ p, p < q → (σ'.2 124 p).toInt = RG σ q x p := by
  obtain ⟨e1, e2, e3, e4, e5⟩ := same118 (σ := σ) (τ := τ) h8
  obtain ⟨σ', w1, w2, w3⟩ := mgroups (σ := τ) (q := q) (x := x) (by rw [h8]; exact v0 h) (vq h) (by rw [e1, e2]; exact vA h) hx (by rw [e3]; exact hl)
  exact ⟨σ', w1, w2, fun p hp => by rw [w3 p hp, e5]⟩
theorem jl1 {σ : Sg} : j_refusedFarLong_0 (-1) σ = some (4000000000000000000 - (-1 : Int32).toInt64, rj 1 σ) := rfl
theorem jl2 {σ : Sg} : j_refusedFarLong_0 (-2) σ = some (4000000000000000000 - (-2 : Int32).toInt64, rj 2 σ) := rfl
theorem jl3 {σ : Sg} : j_refusedFarLong_0 (-3) σ = some (4000000000000000000 - (-3 : Int32).toInt64, rj 3 σ) := rfl
theorem jl11 {σ : Sg} : j_refusedFarLong_0 (-11) σ = some (4000000000000000000 - (-11 : Int32).toInt64, σ) := rfl
theorem ml_1 {σ : Sg} : m_refuseFarther_117 1 σ = some (4000000000000000000 - (-1 : Int32).toInt64, rm 1 σ) := rfl
theorem ml_2 {σ : Sg} : m_refuseFarther_117 2 σ = some (4000000000000000000 - (-2 : Int32).toInt64, rm 2 σ) := rfl
theorem ml_3 {σ : Sg} : m_refuseFarther_117 3 σ = some (4000000000000000000 - (-3 : Int32).toInt64, rm 3 σ) := rfl
theorem ml_11 {σ : Sg} : m_refuseFarther_117 11 σ = some (4000000000000000000 - (-11 : Int32).toInt64, σ) := rfl
theorem x64 {x : Int32} {y : Int64} {a : Int} (hx : x.toInt = a) (hy : y.toInt = a) : x.toInt64 = y := L_eq (by rw [Int32.toInt_toInt64, hx, hy])
theorem op_cover {n q ver : Nat} {σ : Sg} (hn : n < 512) (h : VV n q ver σ) (a b c : Int32) : ∃ r σ1 σ2, j_cover_0 a b c σ = some (r, σ1) ∧ m_cover_117 a b c σ1 = some (r, σ2) ∧ VI (n + 1) σ2 := by
  have hq := vq h
  have hc := cnt_le (LZ σ q) q
  have h1 := (v_118 h).2.1
  unfold j_cover_0 j_cover_0_b15 j_cover_0_b83 m_cover_117 m_cover_117_b19 m_cover_117_b72 m_cover_117_b77
  rcases in_out b (q := cntS (LZ σ q) q) (by omega) with o2 | ⟨i, hi, rfl⟩
  · obtain ⟨τ, w1, w2⟩ := own_out (τ := rj 1 σ) h rj_118 o2
    rcases in_out a (q := 3) (by decide) with o | ⟨l, hl, rfl⟩
    · refine ⟨4000000000000000000 - (-1 : Int32).toInt64, rj 1 σ, rm 1 τ, ?_, ?_, fin_ref hn (by omega) (by omega) h (Kp_refl _) (Kp_S w2 (by decide))⟩
      · rw [jli_out o, bd_s, if_pos rfl, jl1, bd_s]
      · rw [w1, bd_s, mli_out o, bd_s, if_pos rfl, if_neg (by decide), ml_1, bd_s]
    · refine ⟨4000000000000000000 - (-1 : Int32).toInt64, rj 1 σ, rm 1 τ, ?_, ?_, fin_ref hn (by omega) (by omega) h (Kp_refl _) (Kp_S w2 (by decide))⟩
      · rw [jli_in hl, bd_s, if_neg (by decide), jgr_out h o2, bd_s, if_pos rfl, jl1, bd_s]
      · rw [w1, bd_s, mli_in hl, bd_s, if_neg (by decide), if_neg (by decide), if_neg (by decide), ml_1, bd_s]
  · obtain ⟨x, hx, hxq, hxP⟩ := own_ex h hi
    have hx0 : (0 : Int32) ≤ nI x := nI_pos' (by omega)
    rcases in_out a (q := 3) (by decide) with o | ⟨l, hl, rfl⟩
    · obtain ⟨τ, w1, w2⟩ := own_in (τ := rj 1 σ) h rj_118 hx hi
      refine ⟨4000000000000000000 - (-1 : Int32).toInt64, rj 1 σ, rm 1 τ, ?_, ?_, fin_ref hn (by omega) (by omega) h (Kp_refl _) (Kp_S w2 (by decide))⟩
      · rw [jli_out o, bd_s, if_pos rfl, jl1, bd_s]
      · rw [w1, bd_s, mli_out o, bd_s, if_pos rfl, if_neg (by decide), ml_1, bd_s]
    · rcases in_out c (q := 2) (by decide) with o | ⟨p, hp, rfl⟩
      · obtain ⟨τ, w1, w2⟩ := own_in (τ := rj 2 σ) h rj_118 hx hi
        refine ⟨4000000000000000000 - (-2 : Int32).toInt64, rj 2 σ, rm 2 τ, ?_, ?_, fin_ref hn (by omega) (by omega) h (Kp_refl _) (Kp_S w2 (by decide))⟩
        · rw [jli_in hl, bd_s, if_neg (by decide), jgr_in h hi, bd_s, if_neg (by decide), jpa_out o, bd_s, if_pos rfl, jl2, bd_s]
        · rw [w1, bd_s, mli_in hl, bd_s, if_neg (by decide), if_pos hx0, mpa_out o, bd_s, if_pos rfl, if_neg (by decide), ml_2, bd_s]
      · rcases list_cases h hl with ⟨e1, e2⟩ | ⟨s, hs, e1, e2⟩
        · obtain ⟨τ, w1, w2⟩ := own_in (τ := σ) h rfl hx hi
          have k1 : Kp σ τ := Kp_S w2 (by decide)
          refine ⟨4000000000000000000 - (-11 : Int32).toInt64, σ, τ, ?_, ?_, fin_kp hn h k1⟩
          · rw [jli_in hl, bd_s, if_neg (by decide), jgr_in h hi, bd_s, if_neg (by decide), jpa_in hp, bd_s, if_neg (by decide), jmi_no hl e1, bd_s, if_neg (by decide), jl11, bd_s]
          · rw [w1, bd_s, mli_in hl, bd_s, if_neg (by decide), if_pos hx0, mpa_in hp, bd_s, if_neg (by decide), inB_t hl (by omega), gd_t, cl_n (by omega), K126 k1, e2, if_neg (by decide), if_neg (by decide), ml_11, bd_s]
        · have jbeg : ∀ {α : Type} (X : Int32 → Sg → Option α), (bd (j_isList_s (nI l) σ) X) = X 1 σ := by
            intro α X; rw [jli_in hl, bd_s]
          rcases take_both h hl hs hq e1 with ⟨g, σ1, w1, w2, w3⟩ | ⟨g, σ1, w1, w2⟩
          · have k1 : Kp σ σ1 := Kp_S w2 (by decide)
            have hv1 := VV_kp h k1
            have g1 : ∀ i, i < q → nok (nbr σ1 l s i) := fun i hi => by rw [nbr_fr (K127 k1)]; exact g i hi
            have hj : j_isPureProduct_51_114 σ1 = some (pu (σ1.1 114) σ1 q 5, σ1) := jpp hv1 (fun k hk => by rw [w3 k hk]; exact g k hk)
            rcases pu_01 (σ1.1 114) σ1 q 5 with ⟨ep, _⟩ | ⟨ep, _⟩
            · have hE1 := vEL hv1
              obtain ⟨σ2, y1, y2, y3, y4⟩ := jrel_62_113 hq (vEQ hv1 _) hE1 hxq (by rw [(same118 (K118 k1)).1]; exact hxP)
              have k2 : Kp σ1 σ2 := Kp_S y2 (by decide)
              have hv2 := VV_kp hv1 k2
              obtain ⟨σ3, x1, x2⟩ := own_in (τ := σ2) h ((K118 k2).trans (K118 k1)) hx hi
              have k3 : Kp σ2 σ3 := Kp_S x2 (by decide)
              have hv3 := VV_kp hv2 k3
              have g3 : ∀ i, i < q → nok (nbr σ3 l s i) := fun i hi => by rw [nbr_fr (K127 k3), nbr_fr (K127 k2)]; exact g1 i hi
              obtain ⟨σ4, z1, z2, z3⟩ := tell_ok hv3 hl hs hq (by rw [K126 k3, K126 k2, K126 k1]; exact e2) g3
              have k4 : Kp σ3 σ4 := Kp_S z2 (by decide)
              have hv4 := VV_kp hv3 k4
              have htold : ∀ j, j < q → σ4.1 128 j = σ1.1 114 j := fun j hj => by rw [z3 j hj, w3 j hj, nbr_fr (K127 k3), nbr_fr (K127 k2), nbr_fr (K127 k1)]
              have hm : m_isToldPure_117 σ4 = some (1, σ4) := by
                rw [mtp hq (v0 hv4), pu_cg (f := σ1.1 114) (σ := σ1) ((Kdm k4).trans ((Kdm k3).trans (Kdm k2))) htold, ep]
              obtain ⟨σ5, u1, u2, u3⟩ := grp_ok (τ := σ4) h ((K118 k4).trans ((K118 k3).trans ((K118 k2).trans (K118 k1)))) hxq hxP
              have k5 : Kp σ4 σ5 := Kp_S u2 (by decide)
              have hRG : RG σ1 q x x = RG σ q x x := (same118 (K118 k1)).2.2.2.2 q x x
              have hb : (σ2.1 113 x).toInt64.toInt = RG σ q x x := by rw [Int32.toInt_toInt64, y3 x hxq]; exact hRG
              have h114 : σ2.1 114 x = σ1.1 114 x := by rw [FR_i y2 (by decide)]
              have ha : (σ2.1 114 x).toInt64.toInt = (σ1.1 114 x).toInt := by rw [Int32.toInt_toInt64, h114]
              have hra := I_rng (σ1.1 114 x)
              obtain ⟨r, q1, q2⟩ := part_eq ha hb (by omega) (rl_pos (vEQ h _) x) hp σ2 σ5
              have h128 : σ5.1 128 x = σ1.1 114 x := by rw [FR_i u2 (by decide)]; exact htold x hxq
              have q2' : m_partOf_s (σ5.1 128 x).toInt64 (σ5.2 124 x) (nI p) σ5 = some (r, σ5) := by
                rw [h128, ← h114, ← x64 (x := σ2.1 113 x) (y := σ5.2 124 x) ((y3 x hxq).trans hRG) (u3 x hxq)]; exact q2
              refine ⟨r, σ2, σ5, ?_, ?_, fin_kp hn hv4 k5⟩
              · rw [jli_in hl, bd_s, if_neg (by decide), jgr_in h hi, bd_s, if_neg (by decide), jpa_in hp, bd_s, if_neg (by decide), jmi hl hs e1, bd_s, if_pos rfl, h1, w1, bd_s, if_neg (by decide), hj, bd_s, ep, if_neg (by decide), jla (vSP hv1) hq (by rw [(same118 (K118 k1)).2.2.2.1]; exact hx) (by omega), bd_s, y1, bd_s, inB_t (by omega) (by omega), gd_t, gd_t, cl_n (by omega), q1, bd_s]
              · rw [x1, bd_s, mli_in hl, bd_s, if_neg (by decide), if_pos hx0, mpa_in hp, bd_s, if_neg (by decide), inB_t hl (by omega), gd_t, if_pos (m_126 hl hs (by rw [K126 k3, K126 k2, K126 k1]; exact e2)), v0 hv3, z1, bd_s, if_neg (by decide), hm, bd_s, if_neg (by decide), if_pos rfl, u1, bd_s, inB_t (by omega) (by omega), gd_t, gd_t, cl_n (by omega), q2', bd_s]
            · obtain ⟨σ3, x1, x2⟩ := own_in (τ := rj 3 σ1) h (rj_118.trans (K118 k1)) hx hi
              have e2' : σ3.1 126 l = nI s := by rw [FR_i x2 (by decide), rj_c (by decide), K126 k1]; exact e2
              have n3 : ∀ i, nbr σ3 l s i = nbr σ l s i := fun i => nbr_fr (by rw [FR_i x2 (by decide), rj_c (by decide), K127 k1]) l s i
              obtain ⟨σ4, z1, z2, z3⟩ := mtell (σ := σ3) (w := q) hl hs hq e2'
              rw [if_pos (fun i hi => by rw [n3]; exact g i hi)] at z1
              have d3 : dm σ4 = dm σ1 := dm_fr (by rw [FR_i z2 (by decide), FR_i x2 (by decide), rj_118])
              have c0 : σ4.1 118 0 = nI q := by rw [FR_i z2 (by decide), FR_i x2 (by decide), rj_118]; exact v0 hv1
              have hm : m_isToldPure_117 σ4 = some (0, σ4) := by
                rw [mtp hq c0, pu_cg (f := σ1.1 114) (σ := σ1) d3 (fun j hj => by rw [z3 j hj, n3, w3 j hj]), ep]
              refine ⟨4000000000000000000 - (-3 : Int32).toInt64, rj 3 σ1, rm 3 σ4, ?_, ?_, fin_ref hn (by omega) (by omega) h k1 (Kp_trans (Kp_S x2 (by decide)) (Kp_S z2 (by decide)))⟩
              · rw [jli_in hl, bd_s, if_neg (by decide), jgr_in h hi, bd_s, if_neg (by decide), jpa_in hp, bd_s, if_neg (by decide), jmi hl hs e1, bd_s, if_pos rfl, h1, w1, bd_s, if_neg (by decide), hj, bd_s, ep, if_pos rfl, jl3, bd_s]
              · rw [x1, bd_s, mli_in hl, bd_s, if_neg (by decide), if_pos hx0, mpa_in hp, bd_s, if_neg (by decide), inB_t hl (by omega), gd_t, if_pos (m_126 hl hs e2'), FR_i x2 (by decide), rj_118, v0 hv1, z1, bd_s, if_neg (by decide), hm, bd_s, if_pos rfl, if_neg (by decide), ml_3, bd_s]
          · have k1 : Kp σ σ1 := Kp_S w2 (by decide)
            obtain ⟨σ3, x1, x2⟩ := own_in (τ := rj 3 σ1) h (rj_118.trans (K118 k1)) hx hi
            have e2' : σ3.1 126 l = nI s := by rw [FR_i x2 (by decide), rj_c (by decide), K126 k1]; exact e2
            have n3 : ∀ i, nbr σ3 l s i = nbr σ l s i := fun i => nbr_fr (by rw [FR_i x2 (by decide), rj_c (by decide), K127 k1]) l s i
            obtain ⟨σ4, z1, z2, z3⟩ := mtell (σ := σ3) (w := q) hl hs hq e2'
            rw [if_neg (fun w => g (fun i hi => by have := w i hi; rw [n3] at this; exact this))] at z1
            refine ⟨4000000000000000000 - (-3 : Int32).toInt64, rj 3 σ1, rm 3 σ4, ?_, ?_, fin_ref hn (by omega) (by omega) h k1 (Kp_trans (Kp_S x2 (by decide)) (Kp_S z2 (by decide)))⟩
            · rw [jli_in hl, bd_s, if_neg (by decide), jgr_in h hi, bd_s, if_neg (by decide), jpa_in hp, bd_s, if_neg (by decide), jmi hl hs e1, bd_s, if_pos rfl, h1, w1, bd_s, if_pos rfl, jl3, bd_s]
            · rw [x1, bd_s, mli_in hl, bd_s, if_neg (by decide), if_pos hx0, mpa_in hp, bd_s, if_neg (by decide), inB_t hl (by omega), gd_t, if_pos (m_126 hl hs e2'), FR_i x2 (by decide), rj_118, K118 k1, v0 h, z1, bd_s, if_pos rfl, if_neg (by decide), ml_3, bd_s]
