/-! ===== PURE: alike, must ===== -/
def alsc (R : Nat → Int) (σ : Sg) (q : Nat) : Bool := (ff (fun p => !(decide (R p = 0)) && !(hsB σ p)) q 0).isNone
theorem als_iff {R : Nat → Int} {σ : Sg} {q : Nat} : alsc R σ q = true ↔ ∀ p, p < q → R p ≠ 0 → hsB σ p = true := by
  unfold alsc
  constructor
  · intro h p hp hr
    rw [Option.isNone_iff_eq_none] at h
    have := ff_none h p (by omega) (by omega)
    simp at this
    exact this hr
  · intro h
    rw [Option.isNone_iff_eq_none]
    cases hf : ff (fun p => !(decide (R p = 0)) && !(hsB σ p)) q 0 with
    | none => rfl
    | some x =>
      obtain ⟨h1, h2, h3, _⟩ := ff_some hf
      simp at h3
      have := h x (by omega) h3.1
      rw [h3.2] at this; cases this
def alD (σ : Sg) (q i : Nat) : Bool := match nth (LZ σ q) q 0 i with
  | none => false
  | some x => alsc (RG σ q x) σ q && ubB (RG σ q x) σ q
def alR (σ : Sg) (q : Nat) : Int32 := match ff (alD σ q) (cntS (LZ σ q) q) 0 with
  | none => -9
  | some i => nI i
theorem hs_fr {σ σ' : Sg} (h8 : σ'.1 118 = σ.1 118) (p : Nat) : hsB σ' p = hsB σ p := by unfold hsB; rw [h8]
theorem RG_le {n q ver x : Nat} {σ : Sg} (h : VV n q ver σ) (hx : x < q) : ∀ p, p < q → (RG σ q x p).natAbs ≤ 384000000 := fun _ hp => rl_le (vEQ h _) hx hp
theorem jalike {n q ver : Nat} {σ : Sg} (h : VV n q ver σ) : ∃ σ', j_alike_0 σ = some (alR σ q, σ') ∧ FR [113] σ σ' := by
  have hq := vq h
  have hcn := cnt_le (LZ σ q) q
  unfold j_alike_0
  rw [grp_n h]
  refine loopQ (fun m i s => j_alike_0_L21 m (nI (cntS (LZ σ q) q)) (nI i) s) (cntS (LZ σ q) q) (fun i τ => FR [113] σ τ ∧ ff (alD σ q) (cntS (LZ σ q) q) 0 = ff (alD σ q) (cntS (LZ σ q) q - i) i) (fun r => ∃ σ', r = some (alR σ q, σ') ∧ FR [113] σ σ') ?_ ?_ (cntS (LZ σ q) q) fu 0 σ (by omega) (fu_lt (by omega)) ⟨FR_refl _ _, rfl⟩
  · rintro m i τ hi ⟨f, g⟩
    obtain ⟨e, he⟩ : ∃ e, cntS (LZ σ q) q - i = e + 1 := ⟨cntS (LZ σ q) q - i - 1, by omega⟩
    rw [he] at g
    have kτ : Kp σ τ := Kp_S f (by decide)
    have hv := VV_kp h kτ
    obtain ⟨s1, s2, s3, s4, s5⟩ := same118 (K118 kτ)
    obtain ⟨x, hx, hxq, hxP⟩ := own_ex h hi
    obtain ⟨τ2, y1, y2, y3, y4⟩ := jrel_62_113 hq (vEQ hv _) (vEL hv) hxq (show ¬ (ets (mA τ) (2 ^ q - 1) q).2.2.1.testBit x = true by rw [s1]; exact hxP)
    have k2 : Kp τ τ2 := Kp_S y2 (by decide)
    have hv2 := VV_kp hv k2
    have h82 : τ2.1 118 = σ.1 118 := (K118 k2).trans (K118 kτ)
    have hR : ∀ p, p < q → (τ2.1 113 p).toInt = RG σ q x p := fun p hp => by rw [y3 p hp, ← s5]; rfl
    have hD : alD σ q i = (alsc (RG σ q x) σ q && ubB (RG σ q x) σ q) := by unfold alD; rw [hx]
    have st : j_alike_0_L21 (m + 1) (nI (cntS (LZ σ q) q)) (nI i) τ = bd (j_haveScales_1 (nI (stn (τ2.1 113) 8)) τ2) fun r4 σ4 => if r4 = 0 then j_alike_0_L21 m (nI (cntS (LZ σ q) q)) (nI (i + 1)) σ4 else bd (j_isUnbalanced_0_113 σ4) fun r5 σ5 => if r5 = 0 then j_alike_0_L21 m (nI (cntS (LZ σ q) q)) (nI (i + 1)) σ5 else some (nI i, σ5) := by
      show j_alike_0_H21 (j_alike_0_L21 m) _ (nI i) τ = _
      unfold j_alike_0_H21 j_alike_0_b78
      rw [if_neg (nI_ge hi (by omega)), jla (vSP hv) hq (by rw [s4]; exact hx) (by omega), bd_s, y1, bd_s, jseto, bd_s, nI_1]
    have next : alD σ q i = false → (∃ s', j_alike_0_L21 m (nI (cntS (LZ σ q) q)) (nI (i + 1)) τ2 = j_alike_0_L21 m (nI (cntS (LZ σ q) q)) (nI (i + 1)) s' ∧ FR [113] σ s' ∧ ff (alD σ q) (cntS (LZ σ q) q) 0 = ff (alD σ q) (cntS (LZ σ q) q - (i + 1)) (i + 1)) := by
      intro hf
      rw [ff_f (d := e) (p := i) (by rw [hf]; decide)] at g
      exact ⟨τ2, rfl, FR_trans f y2, by rw [g, show cntS (LZ σ q) q - (i + 1) = e by omega]⟩
    rcases jhave_r hv2 hR y4 with ⟨w, gs⟩ | ⟨w, gs⟩
    · have hs : ∀ p, p < q → RG σ q x p ≠ 0 → hsB σ p = true := fun p hp hr => by rw [← hs_fr h82]; exact gs p hp hr
      have ha : alsc (RG σ q x) σ q = true := als_iff.mpr hs
      have hu := junb (R := RG σ q x) hv2 (fun p hp => ⟨hR p hp, RG_le h hxq p hp⟩) gs
      rw [ub_fr h82] at hu
      rw [st, w, bd_s, if_neg (by decide), hu, bd_s]
      by_cases gu : ubB (RG σ q x) σ q = true
      · rw [if_pos gu, if_neg (by decide)]
        rw [ff_t (d := e) (p := i) (by rw [hD, ha, gu]; rfl)] at g
        right
        refine ⟨τ2, ?_, FR_trans f y2⟩
        unfold alR; rw [g]
      · rw [if_neg gu, if_pos rfl]
        exact Or.inl (next (by rw [hD]; simp at gu; rw [gu]; simp))
    · have ha : ¬ alsc (RG σ q x) σ q = true := fun w => gs (fun p hp hr => by rw [hs_fr h82]; exact als_iff.mp w p hp hr)
      rw [st, w, bd_s, if_pos rfl]
      exact Or.inl (next (by rw [hD]; simp at ha; rw [ha]; rfl))
  · rintro m τ ⟨f, g⟩
    rw [show cntS (LZ σ q) q - cntS (LZ σ q) q = 0 by omega] at g
    refine ⟨τ, ?_, f⟩
    show j_alike_0_H21 (j_alike_0_L21 m) _ (nI (cntS (LZ σ q) q)) τ = _
    unfold j_alike_0_H21 alR
    rw [if_pos (nI_le (by omega) (by omega)), g]; rfl
theorem malike_c {n q ver : Nat} {σ τ0 : Sg} (h : VV n q ver σ) (h80 : τ0.1 118 = σ.1 118) : ∃ σ', m_alike_117 τ0 = some (alR σ q, σ') ∧ FR [123, 124] τ0 σ' := by
  have hq := vq h
  have hcn := cnt_le (LZ σ q) q
  obtain ⟨t1, t2, t3, t4, t5⟩ := same118 h80
  obtain ⟨τ1, w1, w2⟩ := mloose (σ := τ0) (q := q) (by rw [h80]; exact v0 h) hq (by rw [t1, t2]; exact vA h)
  unfold m_alike_117
  rw [w1, bd_s, t4, mbits (LZ_lt σ q) hq, bd_s]
  refine loopQ (fun m i s => m_alike_117_L10 m (nI (cntS (LZ σ q) q)) (nI i) s) (cntS (LZ σ q) q) (fun i τ => FR [123, 124] τ0 τ ∧ ff (alD σ q) (cntS (LZ σ q) q) 0 = ff (alD σ q) (cntS (LZ σ q) q - i) i) (fun r => ∃ σ', r = some (alR σ q, σ') ∧ FR [123, 124] τ0 σ') ?_ ?_ (cntS (LZ σ q) q) fu 0 τ1 (by omega) (fu_lt (by omega)) ⟨w2, rfl⟩
  · rintro m i τ hi ⟨f, g⟩
    obtain ⟨e, he⟩ : ∃ e, cntS (LZ σ q) q - i = e + 1 := ⟨cntS (LZ σ q) q - i - 1, by omega⟩
    rw [he] at g
    have h8 : τ.1 118 = σ.1 118 := (FR_i f (by decide)).trans h80
    obtain ⟨x, hx, hxq, hxP⟩ := own_ex h hi
    obtain ⟨τ2, y1, y2⟩ := own_in (τ := τ) h h8 hx hi
    have h82 : τ2.1 118 = σ.1 118 := (FR_i y2 (by decide)).trans h8
    obtain ⟨τ3, z1, z2, z3⟩ := grp_ok (τ := τ2) h h82 hxq hxP
    have h83 : τ3.1 118 = σ.1 118 := (FR_i z2 (by decide)).trans h82
    have f3 : FR [123, 124] τ0 τ3 := FR_trans f (FR_trans y2 z2)
    have hD : alD σ q i = (alsc (RG σ q x) σ q && ubB (RG σ q x) σ q) := by unfold alD; rw [hx]
    have st : m_alike_117_L10 (m + 1) (nI (cntS (LZ σ q) q)) (nI i) τ = bd (m_areScaled_117 τ3) fun r3 σ3 => if r3 = 0 then m_alike_117_L10 m (nI (cntS (LZ σ q) q)) (nI (i + 1)) σ3 else bd (m_isAlike_117 σ3) fun r4 σ4 => if r4 = 0 then some (nI i, σ4) else m_alike_117_L10 m (nI (cntS (LZ σ q) q)) (nI (i + 1)) σ4 := by
      show m_alike_117_H10 (m_alike_117_L10 m) _ (nI i) τ = _
      unfold m_alike_117_H10 m_alike_117_b40
      rw [if_neg (nI_ge hi (by omega)), y1, bd_s, z1, bd_s, nI_1]
    have next : alD σ q i = false → (∃ s', m_alike_117_L10 m (nI (cntS (LZ σ q) q)) (nI (i + 1)) τ3 = m_alike_117_L10 m (nI (cntS (LZ σ q) q)) (nI (i + 1)) s' ∧ FR [123, 124] τ0 s' ∧ ff (alD σ q) (cntS (LZ σ q) q) 0 = ff (alD σ q) (cntS (LZ σ q) q - (i + 1)) (i + 1)) := by
      intro hf
      rw [ff_f (d := e) (p := i) (by rw [hf]; decide)] at g
      exact ⟨τ3, rfl, f3, by rw [g, show cntS (LZ σ q) q - (i + 1) = e by omega]⟩
    rcases mares h h83 z3 with ⟨w, gs⟩ | ⟨w, gs⟩
    · have ha : alsc (RG σ q x) σ q = true := als_iff.mpr gs
      have hu := malike (R := RG σ q x) h h83 (fun p hp => ⟨z3 p hp, RG_le h hxq p hp⟩) gs
      rw [st, w, bd_s, if_neg (by decide), hu, bd_s]
      by_cases gu : ubB (RG σ q x) σ q = true
      · rw [if_pos gu, if_pos rfl]
        rw [ff_t (d := e) (p := i) (by rw [hD, ha, gu]; rfl)] at g
        right
        refine ⟨τ3, ?_, f3⟩
        unfold alR; rw [g]
      · rw [if_neg gu, if_neg (by decide)]
        exact Or.inl (next (by rw [hD]; simp at gu; rw [gu]; simp))
    · have ha : ¬ alsc (RG σ q x) σ q = true := fun w => gs (als_iff.mp w)
      rw [st, w, bd_s, if_pos rfl]
      exact Or.inl (next (by rw [hD]; simp at ha; rw [ha]; rfl))
  · rintro m τ ⟨f, g⟩
    rw [show cntS (LZ σ q) q - cntS (LZ σ q) q = 0 by omega] at g
    refine ⟨τ, ?_, f⟩
    show m_alike_117_H10 (m_alike_117_L10 m) _ (nI (cntS (LZ σ q) q)) τ = _
    unfold m_alike_117_H10 alR
    rw [if_pos (nI_le (by omega) (by omega)), g]; rfl
theorem op_alike {n q ver : Nat} {σ : Sg} (hn : n < 512) (h : VV n q ver σ) : ∃ r σ1 σ2, j_alike_0 σ = some (r, σ1) ∧ m_alike_117 σ1 = some (r, σ2) ∧ VI (n + 1) σ2 := by
  obtain ⟨σ1, w1, w2⟩ := jalike h
  have k1 : Kp σ σ1 := Kp_S w2 (by decide)
  obtain ⟨σ2, x1, x2⟩ := malike_c (τ0 := σ1) h (K118 k1)
  exact ⟨alR σ q, σ1, σ2, w1, x1, fin_kp hn (VV_kp h k1) (Kp_S x2 (by decide))⟩
/-! must -/
theorem RS_le {n q ver S x : Nat} {σ : Sg} (h : VV n q ver σ) (hx : x < q) : ∀ p, p < q → (RS σ q S x p).natAbs ≤ 384000000 := fun _ hp => rl_le (vEQ h _) hx hp
theorem RS_in {σ : Sg} {q S x p : Nat} (hc : chB σ q S = true) (hp : p ≠ x) (hr : RS σ q S x p ≠ 0) : S.testBit p = true := by
  refine Classical.byContradiction (fun w => hr ?_)
  unfold RS
  exact rl_0 hp (show ¬ (ets (mA σ) S q).2.2.1.testBit p = true by rw [(chB_iff.mp hc).2]; exact w)
theorem mw_s {q : Nat} {a b : Int32} {τ : Sg} (h0 : τ.1 118 0 = nI q) (hq : q ≤ 8) (ho : out a (2 ^ q)) : m_wrongMust_117 a b τ = some (1, τ) := by
  unfold m_wrongMust_117 m_wrongMust_117_b24 m_wrongMust_117_b29
  rw [mset_out h0 hq ho, bd_s, if_pos rfl]
theorem mw_q {q S : Nat} {b : Int32} {τ : Sg} (h0 : τ.1 118 0 = nI q) (hq : q ≤ 8) (hS : S < 2 ^ q) (ho : out b q) : m_wrongMust_117 (nI S) b τ = some (1, τ) := by
  unfold m_wrongMust_117 m_wrongMust_117_b24 m_wrongMust_117_b29
  rw [mset_in h0 hq hS, bd_s, if_neg (by decide), mq_out hq h0 ho, bd_s, if_pos rfl]
theorem mw_b {q S x : Nat} {τ : Sg} (h0 : τ.1 118 0 = nI q) (hq : q ≤ 8) (hS : S < 2 ^ q) (hx : x < q) : m_wrongMust_117 (nI S) (nI x) τ = some (if S.testBit x = true then 1 else 0, τ) := by
  have h2 := pw_256 hq
  unfold m_wrongMust_117 m_wrongMust_117_b24 m_wrongMust_117_b29
  rw [mset_in h0 hq hS, bd_s, if_neg (by decide), mq_in hq h0 hx, bd_s, if_neg (by decide), m_has_eq (by omega) (by omega), bd_s]
  by_cases hb : S.testBit x = true
  · rw [if_pos hb, if_neg (by decide)]
  · rw [if_neg hb, if_pos rfl]
theorem Wc {n q ver S x pr : Nat} {σ : Sg} (_h : VV n q ver σ) (hc : chB σ q S = true) (hb : ¬ S.testBit x = true) : wz (RS σ q S x) σ pr (fun p => S.testBit p) q = wz (RS σ q S x) σ pr (fun p => !(decide (p = x))) q := by
  refine wz_cg q (fun p hp hr => ⟨?_, rfl, rfl⟩)
  have hr' : RS σ q S x p ≠ 0 := by rcases hr with w | w <;> exact w
  by_cases e : p = x
  · subst e; simp at hb; simp [hb]
  · simp [e, RS_in hc e hr']
theorem nbx {q x : Nat} (hq : q ≤ 8) (hx : x < q) : ∀ p, p < q → (nI p = nI x ↔ (fun p => !(decide (p = x))) p = false) := by
  intro p hp
  rw [nI_eq (by omega) (by omega)]
  simp
theorem op_must {n q ver : Nat} {σ : Sg} (hn : n < 512) (h : VV n q ver σ) (a b c d : Int32) : ∃ r σ1 σ2, j_must_0 a b c d σ = some (r, σ1) ∧ m_must_117 a b c d σ1 = some (r, σ2) ∧ VI (n + 1) σ2 := by
  have hq := vq h
  have h2 := pw_256 hq
  have l2 : (2 : Int64) = (nI 2).toInt64 := by decide
  have l97 : (97 : Int64) = (nI 97).toInt64 := by decide
  have h0r : ∀ k, (rj k σ).1 118 0 = nI q := fun k => by rw [rj_118]; exact v0 h
  unfold j_must_0 j_must_0_b30 j_must_0_b59 m_must_117 m_must_117_b50 m_must_117_b67
  have ref1 := fin_ref (k := 1) hn (by omega) (by omega) h (Kp_refl σ) (Kp_refl (rj 1 σ))
  have ref2 := fin_ref (k := 2) hn (by omega) (by omega) h (Kp_refl σ) (Kp_refl (rj 2 σ))
  rcases in_out a (q := 2 ^ q) (by omega) with o | ⟨S, hS, rfl⟩
  · refine ⟨4000000000000000000 - (-1 : Int32).toInt64, rj 1 σ, rm 1 (rj 1 σ), ?_, ?_, ref1⟩
    · rw [joth_s h o, bd_s, if_pos rfl, jl1, bd_s]
    · rw [mw_s (h0r 1) hq o, bd_s, if_neg (by decide), if_neg (by decide), ml_1, bd_s]
  · rcases in_out b (q := q) (by omega) with o | ⟨x, hx, rfl⟩
    · refine ⟨4000000000000000000 - (-1 : Int32).toInt64, rj 1 σ, rm 1 (rj 1 σ), ?_, ?_, ref1⟩
      · rw [joth_q h hS o, bd_s, if_pos rfl, jl1, bd_s]
      · rw [mw_q (h0r 1) hq hS o, bd_s, if_neg (by decide), if_neg (by decide), ml_1, bd_s]
    · by_cases hb : S.testBit x = true
      · refine ⟨4000000000000000000 - (-1 : Int32).toInt64, rj 1 σ, rm 1 (rj 1 σ), ?_, ?_, ref1⟩
        · rw [joth_b h hS hx hb, bd_s, if_pos rfl, jl1, bd_s]
        · rw [mw_b (h0r 1) hq hS hx, bd_s, if_pos hb, if_neg (by decide), if_neg (by decide), ml_1, bd_s]
      · have hw : ∀ τ : Sg, τ.1 118 = σ.1 118 → m_wrongMust_117 (nI S) (nI x) τ = some (0, τ) := fun τ h8 => by rw [mw_b (by rw [h8]; exact v0 h) hq hS hx, if_neg hb]
        by_cases hr : (2 : Int) ≤ c.toInt ∧ c.toInt ≤ 97
        · obtain ⟨pr, hp2, hp97, rfl⟩ : ∃ pr : Nat, 2 ≤ pr ∧ pr ≤ 97 ∧ c = nI pr := ⟨c.toInt.toNat, by omega, by omega, of_t (by omega) (by omega)⟩
          have hin : ∀ τ : Sg, m_isIn_s (nI pr).toInt64 2 97 τ = some (1, τ) := fun τ => by rw [l2, l97]; exact isIn_in (a := 2) (b := 97) (by omega) (by omega) hr
          by_cases hpB : prB pr = true
          · rcases in_out d (q := 2) (by decide) with o | ⟨k, hk, rfl⟩
            · refine ⟨4000000000000000000 - (-2 : Int32).toInt64, rj 2 σ, rm 2 (rj 2 σ), ?_, ?_, ref2⟩
              · rw [joth_in h hS hx hb, bd_s, if_neg (by decide), jprime_in hp2 hp97, bd_s, if_pos hpB, if_neg (by decide), jpa_out o, bd_s, if_pos rfl, jl2, bd_s]
              · rw [hw _ rj_118, bd_s, if_pos rfl, hin, bd_s, if_neg (by decide), mprime hp2 hp97, bd_s, if_pos hpB, if_neg (by decide), mpa_out o, bd_s, if_pos rfl, if_neg (by decide), ml_2, bd_s]
            · rcases jchoose h hS with ⟨g, σ1, w1, w2, w3⟩ | ⟨g, σ1, w1, w2⟩
              · have k1 : Kp σ σ1 := Kp_S w2 (by decide)
                have hv1 := VV_kp h k1
                have h81 := K118 k1
                rcases jhave hv1 hS with ⟨hh, gs⟩ | ⟨hh, gs⟩
                · have gs' : ∀ p, p < q → S.testBit p = true → hsB σ p = true := fun p hp hb => by rw [← hs_fr h81]; exact gs p hp hb
                  have hE := vEQ h S
                  obtain ⟨σ2, y1, y2, y3, y4⟩ := jrel_71_113 hq hE w3 hx (by rw [(chB_iff.mp g).2]; exact hb)
                  have k2 : Kp σ1 σ2 := Kp_S y2 (by decide)
                  have k12 := Kp_trans k1 k2
                  have hv2 := VV_kp h k12
                  have h82 := K118 k12
                  have hR : ∀ p, p < q → (σ2.1 113 p).toInt = RS σ q S x p ∧ (RS σ q S x p).natAbs ≤ 384000000 := fun p hp => ⟨y3 p hp, RS_le h hx p hp⟩
                  obtain ⟨r, u1, u2⟩ := jtog (S := S) (pr := pr) hv2 (by omega) hp2 hp97 hR (fun p hp hb _ => by rw [hs_fr h82]; exact gs' p hp hb)
                  rw [wz_fr h82] at u2
                  obtain ⟨τ1, t1, ht⟩ := mscal (τ := σ2) h h82 hS
                  have h8t : τ1.1 118 = σ.1 118 := (FR_i t1 (by decide)).trans h82
                  have ht1 : m_isScaled_117 (nI S) σ2 = some (1, τ1) := by
                    rcases ht with ⟨e, _⟩ | ⟨_, e⟩
                    · exact e
                    · exact absurd ⟨g, gs'⟩ e
                  obtain ⟨τ2, z1, z2, z3⟩ := res_at (τ := τ1) h h8t hS hx g
                  have h8z : τ2.1 118 = σ.1 118 := (FR_i z2 (by decide)).trans h8t
                  obtain ⟨r', x1, x2⟩ := mwei (b := nI x) (c := fun p => !(decide (p = x))) (pr := pr) h h8z hp2 hp97 (nbx hq hx) (fun p hp => ⟨z3 p hp, RS_le h hx p hp⟩) (fun p hp hc hr => gs' p hp (RS_in g (by simpa using hc) hr))
                  have hrr : r' = r := L_eq (by rw [x2, u2, Wc h g hb])
                  have hwl := wz_le (R := RS σ q S x) (σ := σ) (pr := pr) (c := fun p => S.testBit p) q (fun p hp => RS_le h hx p hp)
                  have hneg : (-r).toInt = -(wz (RS σ q S x) σ pr (fun p => S.testBit p) q) := L_neg u2 (by omega)
                  have hD : (σ2.1 113 x).toInt64.toInt = RS σ q S x x := by rw [Int32.toInt_toInt64, y3 x hx]; rfl
                  obtain ⟨res, e1, e2⟩ := part_eq hneg hD (by omega) (rl_pos hE x) hk σ2 τ2
                  have hP : τ2.2 124 x = (σ2.1 113 x).toInt64 := L_eq (by rw [z3 x hx, hD])
                  refine ⟨res, σ2, τ2, ?_, ?_, fin_kp hn hv2 (Kp_trans (Kp_S t1 (by decide)) (Kp_S z2 (by decide)))⟩
                  · rw [joth_in h hS hx hb, bd_s, if_neg (by decide), jprime_in hp2 hp97, bd_s, if_pos hpB, if_neg (by decide), jpa_in hk, bd_s, if_neg (by decide), w1, bd_s, if_neg (by decide), hh, bd_s, if_neg (by decide), y1, bd_s, u1, bd_s, inB_t (by omega) (by omega), gd_t, cl_n (by omega), e1, bd_s]
                  · rw [hw _ h82, bd_s, if_pos rfl, hin, bd_s, if_neg (by decide), mprime hp2 hp97, bd_s, if_pos hpB, if_neg (by decide), mpa_in hk, bd_s, if_neg (by decide), ht1, bd_s, if_neg (by decide), if_pos rfl, z1, bd_s, x1, bd_s, inB_t (by omega) (by omega), gd_t, cl_n (by omega), hrr, hP, e2, bd_s]
                · obtain ⟨τ1, t1, ht⟩ := mscal (τ := rj 3 σ1) h (rj_118.trans h81) hS
                  have ht1 : m_isScaled_117 (nI S) (rj 3 σ1) = some (0, τ1) := by
                    rcases ht with ⟨_, _, e⟩ | ⟨e, _⟩
                    · exact absurd (fun p hp hb => by rw [hs_fr h81]; exact e p hp hb) gs
                    · exact e
                  refine ⟨4000000000000000000 - (-3 : Int32).toInt64, rj 3 σ1, rm 3 τ1, ?_, ?_, fin_ref hn (by omega) (by omega) h k1 (Kp_S t1 (by decide))⟩
                  · rw [joth_in h hS hx hb, bd_s, if_neg (by decide), jprime_in hp2 hp97, bd_s, if_pos hpB, if_neg (by decide), jpa_in hk, bd_s, if_neg (by decide), w1, bd_s, if_neg (by decide), hh, bd_s, if_pos rfl, jl3, bd_s]
                  · rw [hw _ (rj_118.trans h81), bd_s, if_pos rfl, hin, bd_s, if_neg (by decide), mprime hp2 hp97, bd_s, if_pos hpB, if_neg (by decide), mpa_in hk, bd_s, if_neg (by decide), ht1, bd_s, if_pos rfl, if_neg (by decide), ml_3, bd_s]
              · have k1 : Kp σ σ1 := Kp_S w2 (by decide)
                have h81 := K118 k1
                obtain ⟨τ1, t1, ht⟩ := mscal (τ := rj 3 σ1) h (rj_118.trans h81) hS
                have ht1 : m_isScaled_117 (nI S) (rj 3 σ1) = some (0, τ1) := by
                  rcases ht with ⟨_, e, _⟩ | ⟨e, _⟩
                  · exact absurd e g
                  · exact e
                refine ⟨4000000000000000000 - (-3 : Int32).toInt64, rj 3 σ1, rm 3 τ1, ?_, ?_, fin_ref hn (by omega) (by omega) h k1 (Kp_S t1 (by decide))⟩
                · rw [joth_in h hS hx hb, bd_s, if_neg (by decide), jprime_in hp2 hp97, bd_s, if_pos hpB, if_neg (by decide), jpa_in hk, bd_s, if_neg (by decide), w1, bd_s, if_pos rfl, jl3, bd_s]
                · rw [hw _ (rj_118.trans h81), bd_s, if_pos rfl, hin, bd_s, if_neg (by decide), mprime hp2 hp97, bd_s, if_pos hpB, if_neg (by decide), mpa_in hk, bd_s, if_neg (by decide), ht1, bd_s, if_pos rfl, if_neg (by decide), ml_3, bd_s]
          · refine ⟨4000000000000000000 - (-2 : Int32).toInt64, rj 2 σ, rm 2 (rj 2 σ), ?_, ?_, ref2⟩
            · rw [joth_in h hS hx hb, bd_s, if_neg (by decide), jprime_in hp2 hp97, bd_s, if_neg hpB, if_pos rfl, jl2, bd_s]
            · rw [hw _ rj_118, bd_s, if_pos rfl, hin, bd_s, if_neg (by decide), mprime hp2 hp97, bd_s, if_neg hpB, if_pos rfl, if_neg (by decide), ml_2, bd_s]
        · refine ⟨4000000000000000000 - (-2 : Int32).toInt64, rj 2 σ, rm 2 (rj 2 σ), ?_, ?_, ref2⟩
          · rw [joth_in h hS hx hb, bd_s, if_neg (by decide), jprime_out hr, bd_s, if_pos rfl, jl2, bd_s]
          · rw [hw _ rj_118, bd_s, if_pos rfl, l2, l97, isIn_out (a := 2) (b := 97) (by omega) (by omega) hr, bd_s, if_pos rfl, if_neg (by decide), ml_2, bd_s]
