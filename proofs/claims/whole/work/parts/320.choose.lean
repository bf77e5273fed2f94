/-! ===== PURE: sets that MAY be CHOSEN ===== -/
def jbc (v0 : Int32) : Int32 := (((((((v0 - ((iush v0 1) &&& 1431655765)) &&& 858993459) + ((iush (v0 - ((iush v0 1) &&& 1431655765)) 2) &&& 858993459)) + (iush (((v0 - ((iush v0 1) &&& 1431655765)) &&& 858993459) + ((iush (v0 - ((iush v0 1) &&& 1431655765)) 2) &&& 858993459)) 4)) &&& 252645135) + (iush (((((v0 - ((iush v0 1) &&& 1431655765)) &&& 858993459) + ((iush (v0 - ((iush v0 1) &&& 1431655765)) 2) &&& 858993459)) + (iush (((v0 - ((iush v0 1) &&& 1431655765)) &&& 858993459) + ((iush (v0 - ((iush v0 1) &&& 1431655765)) 2) &&& 858993459)) 4)) &&& 252645135) 8)) + (iush ((((((v0 - ((iush v0 1) &&& 1431655765)) &&& 858993459) + ((iush (v0 - ((iush v0 1) &&& 1431655765)) 2) &&& 858993459)) + (iush (((v0 - ((iush v0 1) &&& 1431655765)) &&& 858993459) + ((iush (v0 - ((iush v0 1) &&& 1431655765)) 2) &&& 858993459)) 4)) &&& 252645135) + (iush (((((v0 - ((iush v0 1) &&& 1431655765)) &&& 858993459) + ((iush (v0 - ((iush v0 1) &&& 1431655765)) 2) &&& 858993459)) + (iush (((v0 - ((iush v0 1) &&& 1431655765)) &&& 858993459) + ((iush (v0 - ((iush v0 1) &&& 1431655765)) 2) &&& 858993459)) 4)) &&& 252645135) 8)) 16)) &&& 63
theorem jbc_eq : ∀ S, S < 256 → jbc (nI S) = nI (cntS S 8) := by decide +kernel
theorem bc_eq {S q : Nat} (hS : S < 2 ^ q) (hq : q ≤ 8) (σ : Sg) : j_bitCount_s (nI S) σ = some (nI (cntS S q), σ) := by
  rw [← cnt_8 hS hq, ← jbc_eq S (by have := pw_256 hq; omega)]; rfl
theorem jset_in {n q ver S : Nat} {σ : Sg} (h : VV n q ver σ) (hS : S < 2 ^ q) : j_isSet_0 (nI S) σ = some (1, σ) := by
  have hq := vq h
  have h2 := pw_256 hq
  unfold j_isSet_0 j_isSet_0_b22
  rw [if_neg (nI_pos (by omega)), (vMR h).1, sh_eq q (by omega), if_neg (nI_ge hS (by omega))]; rfl
theorem jset_out {n q ver : Nat} {a : Int32} {σ : Sg} (h : VV n q ver σ) (ho : out a (2 ^ q)) : j_isSet_0 a σ = some (0, σ) := by
  have hq := vq h
  unfold j_isSet_0 j_isSet_0_b21 j_isSet_0_b22
  by_cases h1 : a < 0
  · rw [if_pos h1]; rfl
  · rcases ho with ho | ho
    · exact absurd ho h1
    · rw [if_neg h1, (vMR h).1, sh_eq q (by omega), if_pos ho]; rfl
theorem mset_in {q S : Nat} {σ : Sg} (h0 : σ.1 118 0 = nI q) (hq : q ≤ 8) (hS : S < 2 ^ q) : m_isSet_117 (nI S) σ = some (1, σ) := by
  have h2 := pw_256 hq
  unfold m_isSet_117
  rw [h0, all_eq q (by omega), show (0 : Int64) = (0 : Int32).toInt64 by decide, mi_in (q := 2 ^ q) rfl hS (by omega), bd_s]; rfl
theorem mset_out {q : Nat} {a : Int32} {σ : Sg} (h0 : σ.1 118 0 = nI q) (hq : q ≤ 8) (ho : out a (2 ^ q)) : m_isSet_117 a σ = some (0, σ) := by
  have h2 := pw_256 hq
  have h1 := Nat.two_pow_pos q
  unfold m_isSet_117
  rw [h0, all_eq q (by omega), show (0 : Int64) = (0 : Int32).toInt64 by decide, mi_out (q := 2 ^ q) (by rw [nI_toInt (by omega)]; omega) (by omega) ho, bd_s]; rfl
theorem chB_iff {σ : Sg} {q S : Nat} : chB σ q S = true ↔ cntS S q = RK σ q ∧ (ets (mA σ) S q).2.2.1 = S := by
  unfold chB; simp
theorem RK_le (σ : Sg) (q : Nat) : RK σ q ≤ 5 := ets_rk _ _ _
theorem vPW {n q ver : Nat} {σ : Sg} (h : VV n q ver σ) : PW q (mA σ) σ := by
  intro k u hk hu
  rw [(vSP h).2.1 k u hk hu]; rfl
/-- the invariant but for the noted sets -/
def V70 (q : Nat) (σ : Sg) : Prop := q ≤ 8 ∧ MR 1 118 q σ ∧ SP q σ
theorem v7 {n q ver : Nat} {σ : Sg} (h : VV n q ver σ) : V70 q σ := ⟨vq h, vMR h, vSP h⟩
theorem V70_fr {q : Nat} {σ τ : Sg} (h : V70 q σ) (hc : ∀ c, c ≤ 69 ∨ c = 118 → τ.1 c = σ.1 c ∧ τ.2 c = σ.2 c) : V70 q τ :=
  ⟨h.1, MR_fr h.1 h.2.1 (hc 118 (by omega)).1 (fun c _ _ => (hc c (by omega)).1), SP_fr h.1 h.2.2 (hc 118 (by omega)).1 (fun c _ _ => hc c (by omega))⟩
theorem jcho70 {q S : Nat} {σ : Sg} (hv : V70 q σ) (hS : S < 2 ^ q) : (chB σ q S = true ∧ ∃ σ', j_choose_70 (nI S) σ = some (1, σ') ∧ FR FRE_71 σ σ' ∧ EL 71 72 78 q (ets (mA σ) S q) σ') ∨ (¬ chB σ q S = true ∧ ∃ σ', j_choose_70 (nI S) σ = some (0, σ') ∧ FR FRE_71 σ σ') := by
  obtain ⟨hq, hM, hSP⟩ := hv
  have h2 := pw_256 hq
  have hrk := RK_le σ q
  have e62 : σ.1 62 3 = nI (RK σ q) := hSP.2.2.2.2.1
  have hc := cnt_le S q
  have hA := mA_Z hM
  have hPW : PW q (mA σ) σ := by
    intro k u hk hu
    rw [hSP.2.1 k u hk hu]; rfl
  unfold j_choose_70 j_choose_70_b57
  rw [bc_eq hS hq, bd_s, e62]
  by_cases g : cntS S q = RK σ q
  · obtain ⟨σ', w1, w2, w3⟩ := run_71 (A := mA σ) (set := S) hq (by omega) (fun c hc => sc_nz hA hc) hPW
    rw [if_pos (by rw [g]), hSP.1, w1, bd_s, w3.2.2.1]
    have hl := ets_lt (mA σ) S q
    by_cases g2 : (ets (mA σ) S q).2.2.1 = S
    · refine Or.inl ⟨chB_iff.mpr ⟨g, g2⟩, σ', ?_, w2, w3⟩
      rw [if_pos (by rw [g2])]; rfl
    · refine Or.inr ⟨fun w => g2 (chB_iff.mp w).2, σ', ?_, w2⟩
      rw [if_neg (fun w => g2 ((nI_eq (by omega) (by omega)).mp w))]; rfl
  · refine Or.inr ⟨fun w => g (chB_iff.mp w).1, σ, ?_, FR_refl _ _⟩
    rw [if_neg (fun w => g ((nI_eq (by omega) (by omega)).mp w))]
theorem jchoose {n q ver S : Nat} {σ : Sg} (h : VV n q ver σ) (hS : S < 2 ^ q) : (chB σ q S = true ∧ ∃ σ', j_choose_70 (nI S) σ = some (1, σ') ∧ FR FRE_71 σ σ' ∧ EL 71 72 78 q (ets (mA σ) S q) σ') ∨ (¬ chB σ q S = true ∧ ∃ σ', j_choose_70 (nI S) σ = some (0, σ') ∧ FR FRE_71 σ σ') := jcho70 (v7 h) hS
theorem mchosen {q S : Nat} {σ : Sg} (h0 : σ.1 118 0 = nI q) (hq : q ≤ 8) (hA : ∀ r c, r < 5 → c < q → (mA σ r c).toInt = mZ σ r c ∧ (mZ σ r c).natAbs ≤ 20) (hS : S < 2 ^ q) : ∃ σ', m_isChosen_117 (nI S) σ = some (if chB σ q S = true then 1 else 0, σ') ∧ FR [123, 124] σ σ' := by
  have h2 := pw_256 hq
  have hrk := RK_le σ q
  have hc := cnt_le S q
  obtain ⟨σ1, w1, w2⟩ := mfirm h0 hq hA
  have h8 : σ1.1 118 = σ.1 118 := FR_i w2 (by decide)
  obtain ⟨e1, e2, e3, e4, e5⟩ := same118 h8
  unfold m_isChosen_117 m_isChosen_117_b26 m_isChosen_117_b27
  rw [mbits hS hq, bd_s, w1, bd_s, mbits (PV_lt σ q) hq, bd_s, show cntS (PV σ q) q = RK σ q from (RK_eq σ q).symm]
  by_cases g : cntS S q = RK σ q
  · rw [if_pos (by rw [g])]
    obtain ⟨σ2, x1, x2, x3⟩ := mlays_no (S := S) (q := q) (by omega) hq σ1 (by rw [h8]; exact h0)
    rw [e1] at x3
    have hm := mc_main (w := cntS S q) (cl := clf S 0 q) (A := mA σ) hq hS (Nat.le_refl _) (by omega) (fun p hp hb => clf_mem S 0 q p hp hb) (fun c hc => sc_nz hA hc) q fu 0 σ2 (by omega) (fu_lt (by omega)) (fun x h => absurd h (Nat.not_lt_zero _)) rfl x3
    have hcl : ∀ τ, m_clears_117 (nI (cntS S q)) (nI (cntS S q)) τ = m_clears_117_L5 fu (nI (cntS S q)) (nI (cntS S q)) (ets (mA σ) S 0).2.2.2.2 (nI (cntS S 0)) τ := fun τ => rfl
    have hfree : ∀ r σ3, m_clears_117_L5 fu (nI (cntS S q)) (nI (cntS S q)) (ets (mA σ) S 0).2.2.2.2 (nI (cntS S 0)) σ2 = some (r, σ3) → m_isFree_117 (nI S) σ1 = some (if r = 0 then 0 else 1, σ3) := by
      intro r σ3 he
      unfold m_isFree_117 m_isFree_117_b31 m_isFree_117_b32
      rw [mbits hS hq, bd_s, if_neg (show ¬ (5 : Int32) < nI (cntS S q) from fun w => by have := (gt_l (b := 5) (by omega)).mp w; rw [nI_toInt (by omega)] at this; omega), x1, bd_s, mbits hS hq, bd_s, hcl, he, bd_s]
      by_cases hr : r = 0
      · rw [if_pos (cmp_eq.mpr hr), if_pos hr]; rfl
      · rw [if_neg (fun w => hr (cmp_eq.mp w)), if_neg hr]; rfl
    by_cases g2 : (ets (mA σ) S q).2.2.1 = S
    · obtain ⟨σ3, y1, y2, _⟩ := hm.1 g2
      refine ⟨σ3, ?_, FR_trans w2 (FR_trans (FR_mono (by decide) x2) (FR_mono (by decide) y2))⟩
      rw [hfree _ _ y1, bd_s, if_neg (sc_nz hA (Nat.le_refl _)), if_neg (by decide), if_pos (chB_iff.mpr ⟨g, g2⟩)]; rfl
    · obtain ⟨σ3, y1, y2⟩ := hm.2 g2
      refine ⟨σ3, ?_, FR_trans w2 (FR_trans (FR_mono (by decide) x2) (FR_mono (by decide) y2))⟩
      rw [hfree _ _ y1, bd_s, if_pos rfl, if_pos rfl, if_neg (fun w => g2 (chB_iff.mp w).2)]; rfl
  · refine ⟨σ1, ?_, w2⟩
    rw [if_neg (fun w => g ((nI_eq (by omega) (by omega)).mp w)), if_neg (fun w => g (chB_iff.mp w).1)]; rfl
theorem mrest {q S x : Nat} {σ : Sg} (h0 : σ.1 118 0 = nI q) (hq : q ≤ 8) (hA : ∀ r c, r < 5 → c < q → (mA σ r c).toInt = mZ σ r c ∧ (mZ σ r c).natAbs ≤ 20) (hS : S < 2 ^ q) (hx : x < q) (hc : chB σ q S = true) : ∃ σ', m_isHad_117 (nI S) (nI x) σ = some (1, σ') ∧ FR [123, 124] σ σ' ∧ ∀ p, p < q → (σ'.2 124 p).toInt = RS σ q S x p := by
  obtain ⟨c1, c2⟩ := chB_iff.mp hc
  have hE := (ez_ok hA S).1
  have hF := (ez_ok hA (2 ^ q - 1)).1
  have hcnt := (ets_cnt (mA σ) S q).1
  rw [c2] at hcnt
  have hk : (zts (mZ σ) S q).2.1 = (zts (mZ σ) (2 ^ q - 1) q).2.1 := by
    rw [← hE.2.1, ← hF.2.1, hcnt, c1]; rfl
  obtain ⟨σ', w1, w2, w3⟩ := (mhad h0 hq hA hS hx c2).1 (fun r h1 h2 => by
    apply L_eq
    rw [hE.1 r x h2 hx, L_0]
    exact zts_all hk hx (by rw [← hE.2.1]; exact h1) h2)
  refine ⟨σ', w1, w2, fun p hp => ?_⟩
  rw [w3 p hp, rl_E hA S hx hp]; rfl
theorem op_may {n q ver : Nat} {σ : Sg} (hn : n < 512) (h : VV n q ver σ) (a : Int32) : ∃ r σ1 σ2, j_may_0 a σ = some (r, σ1) ∧ m_may_117 a σ1 = some (r, σ2) ∧ VI (n + 1) σ2 := by
  have hq := vq h
  have h2 := pw_256 hq
  unfold j_may_0 j_may_0_b30 m_may_117 m_may_117_b27
  rcases in_out a (q := 2 ^ q) (by omega) with o | ⟨S, hS, rfl⟩
  · refine ⟨-1, rj 1 σ, rm 1 (rj 1 σ), ?_, ?_, fin_ref hn (by omega) (by omega) h (Kp_refl _) (Kp_refl _)⟩
    · rw [jset_out h o, bd_s, if_pos rfl, jr1, bd_s]
    · rw [mset_out (by rw [rj_118]; exact v0 h) hq o, bd_s, if_pos rfl, mr1, bd_s]
  · rcases jchoose h hS with ⟨g, σ1, w1, w2, w3⟩ | ⟨g, σ1, w1, w2⟩
    · have k1 : Kp σ σ1 := Kp_S w2 (by decide)
      have hv := VV_kp h k1
      obtain ⟨σ2, x1, x2⟩ := mchosen (v0 hv) hq (vA hv) hS
      have hc : chB σ1 q S = chB σ q S := by unfold chB RK; rw [(same118 (K118 k1)).1]
      refine ⟨1, σ1, σ2, ?_, ?_, fin_kp hn hv (Kp_S x2 (by decide))⟩
      · rw [jset_in h hS, bd_s, if_neg (by decide), w1, bd_s, if_neg (by decide)]
      · rw [mset_in (v0 hv) hq hS, bd_s, if_neg (by decide), x1, bd_s, hc, if_pos g, if_neg (by decide)]
    · have k1 : Kp σ σ1 := Kp_S w2 (by decide)
      have hv := VV_kp h k1
      obtain ⟨σ2, x1, x2⟩ := mchosen (v0 hv) hq (vA hv) hS
      have hc : chB σ1 q S = chB σ q S := by unfold chB RK; rw [(same118 (K118 k1)).1]
      refine ⟨0, σ1, σ2, ?_, ?_, fin_kp hn hv (Kp_S x2 (by decide))⟩
      · rw [jset_in h hS, bd_s, if_neg (by decide), w1, bd_s, if_pos rfl]
      · rw [mset_in (v0 hv) hq hS, bd_s, if_neg (by decide), x1, bd_s, hc, if_neg g, if_pos rfl]
