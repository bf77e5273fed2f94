/-! ===== PURE: group, rank ===== -/
theorem same118 {σ τ : Sg} (h8 : τ.1 118 = σ.1 118) : mA τ = mA σ ∧ mZ τ = mZ σ ∧ (∀ q, PV τ q = PV σ q) ∧ (∀ q, LZ τ q = LZ σ q) ∧ ∀ q x p, RG τ q x p = RG σ q x p := by
  have hmA := mA_fr h8
  refine ⟨hmA, ?_, fun q => ?_, fun q => ?_, fun q x p => ?_⟩
  · funext r c; unfold mZ; rw [dm_fr h8]
  · unfold PV; rw [hmA]
  · unfold LZ PV; rw [hmA]
  · unfold RG; rw [hmA]
theorem vMR {n q ver : Nat} {σ : Sg} (h : VV n q ver σ) : MR 1 118 q σ := h.2.2.2.1
theorem vSP {n q ver : Nat} {σ : Sg} (h : VV n q ver σ) : SP q σ := h.2.2.2.2.2.2.2.2.2.1
theorem vq {n q ver : Nat} {σ : Sg} (h : VV n q ver σ) : q ≤ 8 := h.2.2.1
theorem v0 {n q ver : Nat} {σ : Sg} (h : VV n q ver σ) : σ.1 118 0 = nI q := (vMR h).2.1
theorem vA {n q ver : Nat} {σ : Sg} (h : VV n q ver σ) : ∀ r c, r < 5 → c < q → (mA σ r c).toInt = mZ σ r c ∧ (mZ σ r c).natAbs ≤ 20 := mA_Z (vMR h)
theorem vEQ {n q ver : Nat} {σ : Sg} (h : VV n q ver σ) (S : Nat) : EQ q (ets (mA σ) S q) := EQ_ok (vA h) S
theorem vEL {n q ver : Nat} {σ : Sg} (h : VV n q ver σ) : EL 62 63 69 q (ets (mA σ) (2 ^ q - 1) q) σ := (vSP h).2.2.2
theorem nI_sub {a b : Nat} (h : b ≤ a) : nI a - nI b = nI (a - b) := by
  have e : nI (a - b) + nI b = nI a := by rw [nI_add]; congr 1; omega
  rw [← e]; grind
theorem grp_n {n q ver : Nat} {σ : Sg} (h : VV n q ver σ) : σ.1 51 0 - σ.1 62 3 = nI (cntS (LZ σ q) q) := by
  rw [(vSP h).1, (vEL h).2.1, RK_eq, nI_sub (cnt_le _ _)]
  have := cnt_LZ σ q
  congr 1; omega
theorem jgr_in {n q ver i : Nat} {σ : Sg} (h : VV n q ver σ) (hi : i < cntS (LZ σ q) q) : j_isGroup_0 (nI i) σ = some (1, σ) := by
  have := cnt_le (LZ σ q) q
  have := vq h
  unfold j_isGroup_0 j_isGroup_0_b31
  rw [if_neg (nI_pos (by omega)), grp_n h, if_neg (nI_ge hi (by omega))]; rfl
theorem jgr_out {n q ver : Nat} {σ : Sg} {a : Int32} (h : VV n q ver σ) (ho : out a (cntS (LZ σ q) q)) : j_isGroup_0 a σ = some (0, σ) := by
  unfold j_isGroup_0 j_isGroup_0_b30 j_isGroup_0_b31
  by_cases h1 : a < 0
  · rw [if_pos h1]; rfl
  · rcases ho with ho | ho
    · exact absurd ho h1
    · rw [if_neg h1, grp_n h, if_pos ho]; rfl
theorem own_ex {n q ver i : Nat} {σ : Sg} (_h : VV n q ver σ) (hi : i < cntS (LZ σ q) q) : ∃ x, nth (LZ σ q) q 0 i = some x ∧ x < q ∧ ¬ (PV σ q).testBit x = true := by
  obtain ⟨x, hx⟩ := nth_some (S := LZ σ q) (d := q) (k := 0) (i := i) (by show 0 + i < cntS (LZ σ q) (0 + q); rw [Nat.zero_add, Nat.zero_add]; exact hi)
  obtain ⟨h1, h2, h3⟩ := nth_in hx
  refine ⟨x, hx, by omega, ?_⟩
  rw [LZ_bit] at h3
  simp at h3
  simp [h3.2]
theorem jrf1 {σ : Sg} : j_refusedFar_0 (-1) σ = some (1000000000 - (-1), rj 1 σ) := rfl
theorem jrf2 {σ : Sg} : j_refusedFar_0 (-2) σ = some (1000000000 - (-2), rj 2 σ) := rfl
theorem jrf3 {σ : Sg} : j_refusedFar_0 (-3) σ = some (1000000000 - (-3), rj 3 σ) := rfl
theorem jrf4 {σ : Sg} : j_refusedFar_0 (-4) σ = some (1000000000 - (-4), rj 4 σ) := rfl
theorem jrf6 {σ : Sg} : j_refusedFar_0 (-6) σ = some (1000000000 - (-6), rj 6 σ) := rfl
theorem mrf1 {σ : Sg} : m_refuseFar_117 1 σ = some (1000000000 - (-1), rm 1 σ) := rfl
theorem mrf2 {σ : Sg} : m_refuseFar_117 2 σ = some (1000000000 - (-2), rm 2 σ) := rfl
theorem mrf3 {σ : Sg} : m_refuseFar_117 3 σ = some (1000000000 - (-3), rm 3 σ) := rfl
theorem mrf4 {σ : Sg} : m_refuseFar_117 4 σ = some (1000000000 - (-4), rm 4 σ) := rfl
theorem mrf6 {σ : Sg} : m_refuseFar_117 6 σ = some (1000000000 - (-6), rm 6 σ) := rfl
theorem rj_118 {k : Nat} {σ : Sg} : (rj k σ).1 118 = σ.1 118 := si_c (by decide)
/-- what the reference asks, after a refusal of the class's *)-/
theorem own_rj {n q ver k : Nat} {a : Int32} {σ : Sg} (h : VV n q ver σ) (ho : out a (cntS (LZ σ q) q)) : ∃ σ', m_ownOf_117 a (rj k σ) = some (-1, σ') ∧ FR [123, 124] (rj k σ) σ' := by
  obtain ⟨e1, e2, e3, e4, e5⟩ := same118 (σ := σ) (τ := rj k σ) rj_118
  exact mown_out (by rw [rj_118]; exact v0 h) (vq h) (by rw [e1, e2]; exact vA h) (by rw [e4]; exact ho)
theorem own_rj_in {n q ver k i x : Nat} {σ : Sg} (h : VV n q ver σ) (hx : nth (LZ σ q) q 0 i = some x) (hi : i < 9) : ∃ σ', m_ownOf_117 (nI i) (rj k σ) = some (nI x, σ') ∧ FR [123, 124] (rj k σ) σ' := by
  obtain ⟨e1, e2, e3, e4, e5⟩ := same118 (σ := σ) (τ := rj k σ) rj_118
  exact mown_in (by rw [rj_118]; exact v0 h) (vq h) (by rw [e1, e2]; exact vA h) (by rw [e4]; exact hx) hi
theorem Kp_S {S : List Nat} {σ τ : Sg} (h : FR S σ τ) (hS : S.all (fun x => SCR.contains x) = true) : Kp σ τ := Kp_FR (FR_mono hS h)
theorem eq32 {x : Int32} {y : Int64} {a : Int} (hx : x.toInt = a) (hy : y.toInt = a) (hl : a.natAbs ≤ 384000000) : y.toInt32 = x :=
  Int32.toInt_inj.mp ((t32 hy hl).trans hx.symm)
theorem op_group {n q ver : Nat} {σ : Sg} (hn : n < 512) (h : VV n q ver σ) (a b : Int32) : ∃ r σ1 σ2, j_group_0 a b σ = some (r, σ1) ∧ m_group_117 a b σ1 = some (r, σ2) ∧ VI (n + 1) σ2 := by
  have hq := vq h
  have hc := cnt_le (LZ σ q) q
  have h1 := (v_118 h).2.1
  unfold j_group_0 j_group_0_b16 m_group_117 m_group_117_b18
  rcases in_out a (q := cntS (LZ σ q) q) (by omega) with o | ⟨i, hi, rfl⟩
  · obtain ⟨τ, w1, w2⟩ := own_rj (k := 1) h o
    refine ⟨_, rj 1 σ, rm 1 τ, by rw [jgr_out h o, bd_s, if_pos rfl, jrf1, bd_s], ?_, fin_ref hn (by omega) (by omega) h (Kp_refl _) (Kp_S w2 (by decide))⟩
    rw [w1, bd_s, if_pos (by decide), mrf1, bd_s]
  · obtain ⟨x, hx, hxq, hxP⟩ := own_ex h hi
    rcases in_out b (q := q) (by omega) with o | ⟨p, hp, rfl⟩
    · obtain ⟨τ, w1, w2⟩ := own_rj_in (k := 1) h hx (by omega)
      refine ⟨1000000000 - (-1), rj 1 σ, rm 1 τ, ?_, ?_, fin_ref hn (by omega) (by omega) h (Kp_refl _) (Kp_S w2 (by decide))⟩
      · rw [jgr_in h hi, bd_s, if_neg (by decide), jq_out h1 o, bd_s, if_pos rfl, jrf1, bd_s]
      · rw [w1, bd_s, if_neg (nI_pos (by omega)), mq_out hq (by rw [FR_i w2 (by decide), rj_118]; exact v0 h) o, bd_s, if_pos rfl, mrf1, bd_s]
    · obtain ⟨σ1, w1, w2, w3, w4⟩ := jrel_62_113 hq (vEQ h _) (vEL h) hxq hxP
      have k1 : Kp σ σ1 := Kp_S w2 (by decide)
      have hv1 := VV_kp h k1
      obtain ⟨e1, e2, e3, e4, e5⟩ := same118 (σ := σ) (τ := σ1) (FR_i w2 (by decide))
      obtain ⟨σ2, x1, x2⟩ := mown_in (v0 hv1) hq (vA hv1) (by rw [e4]; exact hx) (show i < 9 by omega)
      have k2 : Kp σ1 σ2 := Kp_S x2 (by decide)
      have hv2 := VV_kp hv1 k2
      obtain ⟨d1, d2, d3, d4, d5⟩ := same118 (σ := σ1) (τ := σ2) (FR_i x2 (by decide))
      obtain ⟨σ3, y1, y2, y3⟩ := mgroups (v0 hv2) hq (vA hv2) hxq (by rw [d3, e3]; exact hxP)
      have k3 : Kp σ2 σ3 := Kp_S y2 (by decide)
      refine ⟨σ1.1 113 p, σ1, σ3, ?_, ?_, fin_kp hn hv2 k3⟩
      · rw [jgr_in h hi, bd_s, if_neg (by decide), jq_in hq h1 hp, bd_s, if_neg (by decide), jla (vSP h) hq hx (by omega), bd_s, w1, bd_s, inB_t (by omega) (by omega), gd_t, cl_n (by omega)]
      · rw [x1, bd_s, if_neg (nI_pos (by omega)), mq_in hq (v0 hv2) hp, bd_s, if_neg (by decide), y1, bd_s, inB_t (by omega) (by omega), gd_t, cl_n (by omega)]
        have := y3 p hp
        rw [d5, e5] at this
        rw [eq32 (w3 p hp) this (rl_le (vEQ h _) hxq hp)]
theorem jloose_v {n q ver : Nat} {σ : Sg} (h : VV n q ver σ) : j_looseSet_51 σ = some (nI (LZ σ q), σ) := jloose (vSP h) (vq h)
