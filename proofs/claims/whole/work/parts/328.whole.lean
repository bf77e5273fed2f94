/-! ===== PURE: whole, off ===== -/
theorem jpart1 {x y : Int64} {a b : Int} (ha : x.toInt = a) (hb : y.toInt = b) (h1 : -9223372036854775808 < a) (hb0 : 0 < b) (σ : Sg) : ∃ r, j_partOf_s x y 1 σ = some (r, σ) ∧ (r = 1 ↔ b ∣ a) := by
  have hg := gcL_toInt ha hb h1 (by omega)
  have hpos : 0 < Int.gcd a b := Int.gcd_pos_of_ne_zero_right _ (by omega)
  have hg0 : ¬ gcL x y = 0 := by intro e; rw [e, L_0] at hg; omega
  have hgB : neBL (gcL x y) = true := by simp [neBL, hg0]
  refine ⟨y / gcL x y, ?_, ?_⟩
  · unfold j_partOf_s j_partOf_s_b28
    rw [jgd_eq, bd_s, if_neg (fun e => hg0 (cmp_eq.mp e)), hgB, gd_t, gd_t]; rfl
  · have hd := L_div hb hg (by omega)
    have hdv : ((Int.gcd a b : Nat) : Int) ∣ b := Int.gcd_dvd_right _ _
    constructor
    · intro e
      rw [e] at hd
      have h1' : (1 : Int64).toInt = 1 := by decide
      rw [h1'] at hd
      obtain ⟨k, hk⟩ := hdv
      generalize hG : ((Int.gcd a b : Nat) : Int) = G at hd hk
      have hG0 : G ≠ 0 := by omega
      have hk1 : b.tdiv G = k := by
        rw [hk]; exact Int.mul_tdiv_cancel_left _ hG0
      rw [hk1] at hd
      rw [← hd, Int.mul_one] at hk
      rw [hk, ← hG]; exact Int.gcd_dvd_left _ _
    · intro e
      apply L_eq
      rw [hd, Int.gcd_eq_natAbs_right e]
      have : ((b.natAbs : Nat) : Int) = b := by omega
      rw [this, Int.tdiv_self (by omega)]; rfl
theorem lrm0 {x y : Int64} {a b : Int} (ha : x.toInt = a) (hb : y.toInt = b) (h1 : -9223372036854775808 < a) : lg_cmp (lrm x y) 0 = 0 ↔ b ∣ a := by
  have hr := L_rem ha hb h1
  rw [cmp_eq]
  constructor
  · intro e
    rw [e, L_0] at hr
    exact Int.dvd_of_tmod_eq_zero hr.symm
  · intro e
    apply L_eq
    rw [hr, L_0]
    exact Int.tmod_eq_zero_of_dvd e
/-- is it whole by every prime -/
def whB (R : Nat → Int) (σ : Sg) (q S x : Nat) : Bool := (ff (fun j => !(decide (R x ∣ wz R σ (prm j) (fun p => S.testBit p) q))) 25 0).isNone
theorem wh_iff {R : Nat → Int} {σ : Sg} {q S x : Nat} : whB R σ q S x = true ↔ ∀ j, j < 25 → R x ∣ wz R σ (prm j) (fun p => S.testBit p) q := by
  unfold whB
  constructor
  · intro h j hj
    rw [Option.isNone_iff_eq_none] at h
    have := ff_none h j (by omega) (by omega)
    simpa using this
  · intro h
    rw [Option.isNone_iff_eq_none]
    cases hf : ff (fun j => !(decide (R x ∣ wz R σ (prm j) (fun p => S.testBit p) q))) 25 0 with
    | none => rfl
    | some y =>
      obtain ⟨h1, h2, h3, _⟩ := ff_some hf
      have := h y (by omega)
      simp [this] at h3
theorem jwh {n q ver S x : Nat} {R : Nat → Int} {σ0 σ : Sg} (h : VV n q ver σ) (h8 : σ.1 118 = σ0.1 118) (hS : S < 2 ^ q) (hx : x < q) (hpos : 0 < R x) (hR : ∀ p, p < q → (σ.1 113 p).toInt = R p ∧ (R p).natAbs ≤ 384000000) (hs : ∀ p, p < q → S.testBit p = true → hsB σ0 p = true) : j_whole_0_L70 fu (nI S) (nI x) 25 0 σ = some (if whB R σ0 q S x = true then 1 else 0, σ) := by
  have hq := vq h
  have h2 := pw_256 hq
  refine loopQ (fun m j (_ : Unit) => j_whole_0_L70 m (nI S) (nI x) 25 (nI j) σ) 25 (fun j _ => ff (fun j => !(decide (R x ∣ wz R σ0 (prm j) (fun p => S.testBit p) q))) 25 0 = ff (fun j => !(decide (R x ∣ wz R σ0 (prm j) (fun p => S.testBit p) q))) (25 - j) j) (fun r => r = some (if whB R σ0 q S x = true then 1 else 0, σ)) ?_ ?_ 25 fu 0 () (by omega) (by decide) rfl
  · rintro m j _ hj g
    obtain ⟨e, he⟩ : ∃ e, 25 - j = e + 1 := ⟨25 - j - 1, by omega⟩
    rw [he] at g
    obtain ⟨s1, s2, s3⟩ := sv_prm j hj
    obtain ⟨r, w1, w2⟩ := jtog (S := S) (pr := prm j) h (by omega) s2 s3 hR (fun p hp hb _ => by rw [hs_fr h8]; exact hs p hp hb)
    rw [wz_fr h8] at w2
    have hwl := wz_le (R := R) (σ := σ0) (pr := prm j) (c := fun p => S.testBit p) q (fun p hp => (hR p hp).2)
    have hD : (σ.1 113 x).toInt64.toInt = R x := by rw [Int32.toInt_toInt64, (hR x hx).1]
    obtain ⟨r4, y1, y2⟩ := jpart1 w2 hD (by omega) hpos σ
    have st : j_whole_0_L70 (m + 1) (nI S) (nI x) 25 (nI j) σ = if R x ∣ wz R σ0 (prm j) (fun p => S.testBit p) q then j_whole_0_L70 m (nI S) (nI x) 25 (nI (j + 1)) σ else some (0, σ) := by
      show j_whole_0_H70 (j_whole_0_L70 m) _ _ 25 (nI j) σ = _
      unfold j_whole_0_H70
      rw [if_neg (show ¬ (25 : Int32) ≤ nI j from nI_ge (b := 25) hj (by decide)), inB_t hj (by omega), gd_t, cl_n (by omega), s1, w1, bd_s, inB_t (by omega) (by omega), gd_t, cl_n (by omega), y1, bd_s, nI_1]
      by_cases g : R x ∣ wz R σ0 (prm j) (fun p => S.testBit p) q
      · rw [if_pos (cmp_eq.mpr (y2.mpr g)), if_pos g]
      · rw [if_neg (fun w => g (y2.mp (cmp_eq.mp w))), if_neg g]
    rw [st]
    by_cases hz : R x ∣ wz R σ0 (prm j) (fun p => S.testBit p) q
    · rw [ff_f (d := e) (p := j) (by simp [hz])] at g
      rw [if_pos hz]
      exact Or.inl ⟨(), rfl, by rw [g, show 25 - (j + 1) = e by omega]⟩
    · rw [ff_t (d := e) (p := j) (by simp [hz])] at g
      rw [if_neg hz]
      right
      have : whB R σ0 q S x = false := by unfold whB; rw [g]; rfl
      rw [this]; rfl
  · rintro m _ g
    rw [show 25 - 25 = 0 by omega] at g
    have : whB R σ0 q S x = true := by unfold whB; rw [g]; rfl
    show j_whole_0_H70 (j_whole_0_L70 m) _ _ 25 (nI 25) σ = _
    unfold j_whole_0_H70
    rw [if_pos (show (25 : Int32) ≤ nI 25 by decide), this]; rfl
theorem mwh {n q ver S x : Nat} {σ0 σ : Sg} (h : VV n q ver σ0) (h8 : σ.1 118 = σ0.1 118) (hx : x < q) (hb : ¬ S.testBit x = true) (hc : chB σ0 q S = true) (hpos : 0 < RS σ0 q S x x) (hR : ∀ p, p < q → (σ.2 124 p).toInt = RS σ0 q S x p) (hs : ∀ p, p < q → S.testBit p = true → hsB σ0 p = true) : m_whole_117_L50 fu (nI x) 1 2 σ = some (if whB (RS σ0 q S x) σ0 q S x = true then 1 else 0, σ) := by
  have hq := vq h
  have hcj : cj (fun n => !(decide (2 ≤ n) && prB n) || decide (RS σ0 q S x x ∣ wz (RS σ0 q S x) σ0 n (fun p => S.testBit p) q)) 98 = if whB (RS σ0 q S x) σ0 q S x = true then 1 else 0 := by
    refine cj_ite ?_
    rw [wh_iff]
    constructor
    · intro g j hj
      by_cases w : 2 ≤ j ∧ prB j = true
      · obtain ⟨i, hi, hij⟩ := prB_ex w.1 (by omega) w.2
        have := g i hi
        rw [hij] at this
        simp [this]
      · have : (decide (2 ≤ j) && prB j) = false := by
          rcases Decidable.em (2 ≤ j) with w1 | w1
          · have : prB j = false := by
              cases hh : prB j
              · rfl
              · exact absurd ⟨w1, hh⟩ w
            simp [this]
          · simp [w1]
        simp [this]
    · intro g j hj
      obtain ⟨s1, s2, s3⟩ := sv_prm j hj
      have := g (prm j) (by omega)
      simp [s2, prm_B j hj] at this
      exact this
  have h2c : cj (fun n => !(decide (2 ≤ n) && prB n) || decide (RS σ0 q S x x ∣ wz (RS σ0 q S x) σ0 n (fun p => S.testBit p) q)) 2 = 1 := by
    rcases cj_01 (fun n => !(decide (2 ≤ n) && prB n) || decide (RS σ0 q S x x ∣ wz (RS σ0 q S x) σ0 n (fun p => S.testBit p) q)) 2 with ⟨e, _⟩ | ⟨_, g⟩
    · exact e
    · exact absurd (fun j hj => by
        have : ¬ 2 ≤ j := by omega
        simp [this]) g
  rw [← hcj]
  refine loopQ (fun m y (s : Int32) => m_whole_117_L50 m (nI x) s (nI y) σ) 98 (fun y s => 2 ≤ y ∧ s = cj (fun n => !(decide (2 ≤ n) && prB n) || decide (RS σ0 q S x x ∣ wz (RS σ0 q S x) σ0 n (fun p => S.testBit p) q)) y) (fun r => r = some (cj (fun n => !(decide (2 ≤ n) && prB n) || decide (RS σ0 q S x x ∣ wz (RS σ0 q S x) σ0 n (fun p => S.testBit p) q)) 98, σ)) ?_ ?_ 96 fu 2 1 (by omega) (by decide) ⟨Nat.le_refl _, h2c.symm⟩
  · rintro m y s hy ⟨h2, rfl⟩
    refine Or.inl ⟨_, ?_, by omega, rfl⟩
    show m_whole_117_H50 (m_whole_117_L50 m) (nI x) _ (nI y) σ = m_whole_117_L50 m (nI x) (_ &&& (if (!(decide (2 ≤ y) && prB y) || decide (RS σ0 q S x x ∣ wz (RS σ0 q S x) σ0 y (fun p => S.testBit p) q)) = true then (1 : Int32) else 0)) (nI (y + 1)) σ
    obtain ⟨r, w1, w2⟩ := mwei (b := nI x) (c := fun p => !(decide (p = x))) (pr := y) h h8 h2 (by omega) (nbx hq hx) (fun p hp => ⟨hR p hp, RS_le h hx p hp⟩) (fun p hp hcx hr => hs p hp (RS_in hc (by simpa using hcx) hr))
    rw [← Wc h hc hb] at w2
    have hwl := wz_le (R := RS σ0 q S x) (σ := σ0) (pr := y) (c := fun p => S.testBit p) q (fun p hp => RS_le h hx p hp)
    have hne : neBL (σ.2 124 x) = true := by
      have : ¬ σ.2 124 x = 0 := by
        intro w
        have := hR x hx
        rw [w, L_0] at this; omega
      simp [neBL, this]
    have hlr := lrm0 w2 (hR x hx) (by omega)
    unfold m_whole_117_H50 m_whole_117_b86 m_whole_117_b91
    rw [if_neg (show ¬ (97 : Int32) < nI y from fun w => by have := (gt_l (b := 97) (by omega)).mp w; rw [nI_toInt (by omega)] at this; omega), mprime h2 (by omega), bd_s, nI_1]
    by_cases g1 : prB y = true
    · rw [if_pos g1, if_neg (by decide), w1, bd_s, inB_t (by omega) (by omega), gd_t, cl_n (by omega), hne, gd_t]
      by_cases g2 : RS σ0 q S x x ∣ wz (RS σ0 q S x) σ0 y (fun p => S.testBit p) q
      · rw [if_pos (hlr.mpr g2), if_pos (by simp [g2])]
      · rw [if_neg (fun w => g2 (hlr.mp w)), if_neg (by simp [h2, g1, g2])]
    · rw [if_neg g1, if_pos rfl, if_pos (by simp [g1])]
  · rintro m s ⟨h2, rfl⟩
    show m_whole_117_H50 (m_whole_117_L50 m) (nI x) _ (nI 98) σ = _
    unfold m_whole_117_H50 m_whole_117_b110
    rw [if_pos (show (97 : Int32) < nI 98 by decide)]
    rcases cj_01 (fun n => !(decide (2 ≤ n) && prB n) || decide (RS σ0 q S x x ∣ wz (RS σ0 q S x) σ0 n (fun p => S.testBit p) q)) 98 with ⟨e, _⟩ | ⟨e, _⟩
    · rw [e, if_neg (by decide)]
    · rw [e, if_pos rfl]
theorem op_whole {n q ver : Nat} {σ : Sg} (hn : n < 512) (h : VV n q ver σ) (a b : Int32) : ∃ r σ1 σ2, j_whole_0 a b σ = some (r, σ1) ∧ m_whole_117 a b σ1 = some (r, σ2) ∧ VI (n + 1) σ2 := by
  have hq := vq h
  have h2 := pw_256 hq
  have h0r : ∀ k, (rj k σ).1 118 0 = nI q := fun k => by rw [rj_118]; exact v0 h
  unfold j_whole_0 j_whole_0_b37 m_whole_117 m_whole_117_b28
  have ref1 := fin_ref (k := 1) hn (by omega) (by omega) h (Kp_refl σ) (Kp_refl (rj 1 σ))
  rcases in_out a (q := 2 ^ q) (by omega) with o | ⟨S, hS, rfl⟩
  · refine ⟨-1, rj 1 σ, rm 1 (rj 1 σ), ?_, ?_, ref1⟩
    · rw [joth_s h o, bd_s, if_pos rfl, jr1, bd_s]
    · rw [mw_s (h0r 1) hq o, bd_s, if_neg (by decide), if_neg (by decide), mr1, bd_s]
  · rcases in_out b (q := q) (by omega) with o | ⟨x, hx, rfl⟩
    · refine ⟨-1, rj 1 σ, rm 1 (rj 1 σ), ?_, ?_, ref1⟩
      · rw [joth_q h hS o, bd_s, if_pos rfl, jr1, bd_s]
      · rw [mw_q (h0r 1) hq hS o, bd_s, if_neg (by decide), if_neg (by decide), mr1, bd_s]
    · by_cases hb : S.testBit x = true
      · refine ⟨-1, rj 1 σ, rm 1 (rj 1 σ), ?_, ?_, ref1⟩
        · rw [joth_b h hS hx hb, bd_s, if_pos rfl, jr1, bd_s]
        · rw [mw_b (h0r 1) hq hS hx, bd_s, if_pos hb, if_neg (by decide), if_neg (by decide), mr1, bd_s]
      · have hw : ∀ τ : Sg, τ.1 118 = σ.1 118 → m_wrongMust_117 (nI S) (nI x) τ = some (0, τ) := fun τ h8 => by rw [mw_b (by rw [h8]; exact v0 h) hq hS hx, if_neg hb]
        rcases jchoose h hS with ⟨g, σ1, w1, w2, w3⟩ | ⟨g, σ1, w1, w2⟩
        · have k1 : Kp σ σ1 := Kp_S w2 (by decide)
          have hv1 := VV_kp h k1
          have h81 := K118 k1
          rcases jhave hv1 hS with ⟨hh, gs⟩ | ⟨hh, gs⟩
          · have gs' : ∀ p, p < q → S.testBit p = true → hsB σ p = true := fun p hp hb => by rw [← hs_fr h81]; exact gs p hp hb
            have hE := vEQ h S
            obtain ⟨σ2, y1, y2, y3, y4⟩ := jrel_71_113 hq hE w3 hx (by rw [(chB_iff.mp g).2]; exact hb)
            have k2 : Kp σ1 σ2 := Kp_S y2 (by decide)
            have k12 := Kp_trans k1 k2
            have hv2 := VV_kp h k12
            have h82 := K118 k12
            have hR : ∀ p, p < q → (σ2.1 113 p).toInt = RS σ q S x p ∧ (RS σ q S x p).natAbs ≤ 384000000 := fun p hp => ⟨y3 p hp, RS_le h hx p hp⟩
            have hpos : 0 < RS σ q S x x := rl_pos hE x
            have hj := jwh (R := RS σ q S x) hv2 h82 hS hx hpos hR gs'
            obtain ⟨τ1, t1, ht⟩ := mscal (τ := σ2) h h82 hS
            have h8t : τ1.1 118 = σ.1 118 := (FR_i t1 (by decide)).trans h82
            have ht1 : m_isScaled_117 (nI S) σ2 = some (1, τ1) := by
              rcases ht with ⟨e, _⟩ | ⟨_, e⟩
              · exact e
              · exact absurd ⟨g, gs'⟩ e
            obtain ⟨τ2, z1, z2, z3⟩ := res_at (τ := τ1) h h8t hS hx g
            have h8z : τ2.1 118 = σ.1 118 := (FR_i z2 (by decide)).trans h8t
            have hm := mwh h h8z hx hb g hpos z3 gs'
            refine ⟨if whB (RS σ q S x) σ q S x = true then 1 else 0, σ2, τ2, ?_, ?_, fin_kp hn hv2 (Kp_trans (Kp_S t1 (by decide)) (Kp_S z2 (by decide)))⟩
            · rw [joth_in h hS hx hb, bd_s, if_neg (by decide), w1, bd_s, if_neg (by decide), hh, bd_s, if_neg (by decide), y1, bd_s, hj]
            · rw [hw _ h82, bd_s, if_pos rfl, ht1, bd_s, if_neg (by decide), if_pos rfl, z1, bd_s, hm]
          · obtain ⟨τ1, t1, ht⟩ := mscal (τ := rj 3 σ1) h (rj_118.trans h81) hS
            have ht1 : m_isScaled_117 (nI S) (rj 3 σ1) = some (0, τ1) := by
              rcases ht with ⟨_, _, e⟩ | ⟨e, _⟩
              · exact absurd (fun p hp hb => by rw [hs_fr h81]; exact e p hp hb) gs
              · exact e
            refine ⟨-3, rj 3 σ1, rm 3 τ1, ?_, ?_, fin_ref hn (by omega) (by omega) h k1 (Kp_S t1 (by decide))⟩
            · rw [joth_in h hS hx hb, bd_s, if_neg (by decide), w1, bd_s, if_neg (by decide), hh, bd_s, if_pos rfl, jr3, bd_s]
            · rw [hw _ (rj_118.trans h81), bd_s, if_pos rfl, ht1, bd_s, if_pos rfl, if_neg (by decide), mr3, bd_s]
        · have k1 : Kp σ σ1 := Kp_S w2 (by decide)
          have h81 := K118 k1
          obtain ⟨τ1, t1, ht⟩ := mscal (τ := rj 3 σ1) h (rj_118.trans h81) hS
          have ht1 : m_isScaled_117 (nI S) (rj 3 σ1) = some (0, τ1) := by
            rcases ht with ⟨_, e, _⟩ | ⟨e, _⟩
            · exact absurd e g
            · exact e
          refine ⟨-3, rj 3 σ1, rm 3 τ1, ?_, ?_, fin_ref hn (by omega) (by omega) h k1 (Kp_S t1 (by decide))⟩
          · rw [joth_in h hS hx hb, bd_s, if_neg (by decide), w1, bd_s, if_pos rfl, jr3, bd_s]
          · rw [hw _ (rj_118.trans h81), bd_s, if_pos rfl, ht1, bd_s, if_pos rfl, if_neg (by decide), mr3, bd_s]
/-! off -/
def ofB (σ : Sg) (q S x : Nat) : Bool := !(S.testBit x) && (hsB σ x && ubB (RS σ q S x) σ q)
def ofn (σ : Sg) (q S : Nat) : Nat → Nat
  | 0 => 0
  | x + 1 => ofn σ q S x + (if ofB σ q S x = true then 2 ^ x else 0)
theorem ofn_lt (σ : Sg) (q S : Nat) : ∀ k, ofn σ q S k < 2 ^ k
  | 0 => by show 0 < 1; omega
  | k + 1 => by
    have := ofn_lt σ q S k
    have h2 : 2 ^ (k + 1) = 2 ^ k + 2 ^ k := by rw [Nat.pow_succ]; omega
    show ofn σ q S k + _ < _
    split <;> omega
theorem off_hs {σ : Sg} {q S x : Nat} (hc : chB σ q S = true) (hx : hsB σ x = true) (hs : ∀ p, p < q → S.testBit p = true → hsB σ p = true) : ∀ p, p < q → RS σ q S x p ≠ 0 → hsB σ p = true := by
  intro p hp hr
  by_cases e : p = x
  · rw [e]; exact hx
  · exact hs p hp (RS_in hc e hr)
theorem joff {n q ver S : Nat} {σ0 σ : Sg} (h : VV n q ver σ0) (k0 : Kp σ0 σ) (hS : S < 2 ^ q) (hc : chB σ0 q S = true) (hE : EL 71 72 78 q (ets (mA σ0) S q) σ) (hs : ∀ p, p < q → S.testBit p = true → hsB σ0 p = true) : ∃ σ', j_off_0_L47 fu (nI S) 0 0 σ = some (nI (ofn σ0 q S q), σ') ∧ FR [113] σ σ' := by
  have hq := vq h
  have h2 := pw_256 hq
  have hEQ := vEQ h S
  have hP := (chB_iff.mp hc).2
  refine loopE (L := fun m x s => j_off_0_L47 m (nI S) (nI (ofn σ0 q S x)) (nI x) s) (N := q) (P := fun x τ => FR [113] σ τ) (Q := fun r => ∃ σ', r = some (nI (ofn σ0 q S q), σ') ∧ FR [113] σ σ') ?_ ?_ (fu_lt (by omega)) (FR_refl _ _)
  · rintro m x τ hx f
    have kτ : Kp σ0 τ := Kp_trans k0 (Kp_S f (by decide))
    have hv := VV_kp h kτ
    have h8 := K118 kτ
    have hl := ofn_lt σ0 q S x
    have hp7 := pw_le (show x ≤ 7 by omega)
    have hEτ : EL 71 72 78 q (ets (mA σ0) S q) τ := EL_fr hE (FR_i f (by decide)) (FR_l f (by decide)) (fun r hr => FR_l f (by rcases lt5 hr with rfl | rfl | rfl | rfl | rfl <;> decide)) (FR_i f (by decide))
    have un : ofn σ0 q S (x + 1) = ofn σ0 q S x + (if ofB σ0 q S x = true then 2 ^ x else 0) := rfl
    have go : ∀ v τ', j_off_0_b113 (j_off_0_L47 m) (nI S) v (nI x) τ' = j_off_0_L47 m (nI S) v (nI (x + 1)) τ' := by
      intro v τ'; unfold j_off_0_b113; rw [nI_1]
    have h12 : (τ.1 12 x = 0) ↔ hsB σ0 x = false := by
      have e1 := (sc_in hv hx).1
      rw [e1, h8]; unfold hsB; simp
    have st : j_off_0_L47 (m + 1) (nI S) (nI (ofn σ0 q S x)) (nI x) τ = if S.testBit x = true then j_off_0_L47 m (nI S) (nI (ofn σ0 q S x)) (nI (x + 1)) τ else if hsB σ0 x = false then j_off_0_L47 m (nI S) (nI (ofn σ0 q S x)) (nI (x + 1)) τ else bd (j_relation_71_113 (nI x) τ) fun _ σ3 => bd (j_isUnbalanced_0_113 σ3) fun r4 σ4 => if r4 = 0 then j_off_0_L47 m (nI S) (nI (ofn σ0 q S x)) (nI (x + 1)) σ4 else j_off_0_L47 m (nI S) (nI (ofn σ0 q S x + 2 ^ x)) (nI (x + 1)) σ4 := by
      show j_off_0_H47 (j_off_0_L47 m) (nI S) _ (nI x) τ = _
      unfold j_off_0_H47 j_off_0_b111
      simp only [go, or0, or_eq x (show x < 8 by omega) _ (show ofn σ0 q S x < 128 by omega) hl]
      rw [(vMR hv).1, if_neg (nI_ge hx (by omega)), j_bit_eq (by omega) (by omega), bd_s]
      by_cases hb : S.testBit x = true
      · rw [if_pos hb, if_pos hb, if_neg (by decide)]
      · rw [if_neg hb, if_neg hb, if_pos rfl, jhs (by omega), bd_s]
        by_cases hh : hsB σ0 x = false
        · rw [if_pos (h12.mpr hh), if_pos rfl, if_pos hh]
        · rw [if_neg (fun w => hh (h12.mp w)), if_neg (by decide), if_neg hh]
    by_cases hb : S.testBit x = true
    · refine ⟨τ, ?_, f⟩
      rw [st, if_pos hb, un, if_neg (by unfold ofB; simp [hb])]; rfl
    · by_cases hh : hsB σ0 x = false
      · refine ⟨τ, ?_, f⟩
        rw [st, if_neg hb, if_pos hh, un, if_neg (by unfold ofB; simp [hh])]; rfl
      · have hh' : hsB σ0 x = true := by simpa using hh
        obtain ⟨τ2, y1, y2, y3, y4⟩ := jrel_71_113 hq hEQ hEτ hx (by rw [hP]; exact hb)
        have k2 : Kp τ τ2 := Kp_S y2 (by decide)
        have hv2 := VV_kp hv k2
        have h82 : τ2.1 118 = σ0.1 118 := (K118 k2).trans h8
        have hu := junb (R := RS σ0 q S x) hv2 (fun p hp => ⟨y3 p hp, RS_le h hx p hp⟩) (fun p hp hr => by rw [hs_fr h82]; exact off_hs hc hh' hs p hp hr)
        rw [ub_fr h82] at hu
        refine ⟨τ2, ?_, FR_trans f y2⟩
        rw [st, if_neg hb, if_neg hh, y1, bd_s, hu, bd_s, un]
        simp at hb
        by_cases gu : ubB (RS σ0 q S x) σ0 q = true
        · rw [if_pos gu, if_neg (by decide), if_pos (by unfold ofB; simp [hb, hh', gu])]
        · rw [if_neg gu, if_pos rfl, if_neg (by unfold ofB; simp [gu])]; rfl
  · rintro m τ f
    refine ⟨τ, ?_, f⟩
    have kτ : Kp σ0 τ := Kp_trans k0 (Kp_S f (by decide))
    show j_off_0_H47 (j_off_0_L47 m) (nI S) _ (nI q) τ = _
    unfold j_off_0_H47
    rw [(vMR (VV_kp h kτ)).1, if_pos (nI_le (by omega) (by omega))]
theorem moff {n q ver S : Nat} {σ0 σ : Sg} (h : VV n q ver σ0) (h80 : σ.1 118 = σ0.1 118) (hS : S < 2 ^ q) (hc : chB σ0 q S = true) (hs : ∀ p, p < q → S.testBit p = true → hsB σ0 p = true) : ∃ σ', m_off_117_L32 fu (nI S) 0 0 σ = some (nI (ofn σ0 q S q), σ') ∧ FR [123, 124] σ σ' := by
  have hq := vq h
  have h2 := pw_256 hq
  refine loopE (L := fun m x s => m_off_117_L32 m (nI S) (nI (ofn σ0 q S x)) (nI x) s) (N := q) (P := fun x τ => FR [123, 124] σ τ) (Q := fun r => ∃ σ', r = some (nI (ofn σ0 q S q), σ') ∧ FR [123, 124] σ σ') ?_ ?_ (fu_lt (by omega)) (FR_refl _ _)
  · rintro m x τ hx f
    have h8 : τ.1 118 = σ0.1 118 := (FR_i f (by decide)).trans h80
    have hl := ofn_lt σ0 q S x
    have hp7 := pw_le (show x ≤ 7 by omega)
    have un : ofn σ0 q S (x + 1) = ofn σ0 q S x + (if ofB σ0 q S x = true then 2 ^ x else 0) := rfl
    have go : ∀ v τ', m_off_117_b91 (m_off_117_L32 m) (nI S) v (nI x) τ' = m_off_117_L32 m (nI S) v (nI (x + 1)) τ' := by
      intro v τ'; unfold m_off_117_b91; rw [nI_1]
    have h12 : (σ0.1 118 (49 + x) = 0) ↔ hsB σ0 x = false := by unfold hsB; simp
    have st : m_off_117_L32 (m + 1) (nI S) (nI (ofn σ0 q S x)) (nI x) τ = if S.testBit x = true then m_off_117_L32 m (nI S) (nI (ofn σ0 q S x)) (nI (x + 1)) τ else if hsB σ0 x = false then m_off_117_L32 m (nI S) (nI (ofn σ0 q S x)) (nI (x + 1)) τ else bd (m_isHad_117 (nI S) (nI x) τ) fun r3 σ3 => if r3 = 0 then m_off_117_L32 m (nI S) (nI (ofn σ0 q S x)) (nI (x + 1)) σ3 else bd (m_isAlike_117 σ3) fun r4 σ4 => if r4 = 0 then m_off_117_L32 m (nI S) (nI (ofn σ0 q S x + 2 ^ x)) (nI (x + 1)) σ4 else m_off_117_L32 m (nI S) (nI (ofn σ0 q S x)) (nI (x + 1)) σ4 := by
      show m_off_117_H32 (m_off_117_L32 m) (nI S) _ (nI x) τ = _
      unfold m_off_117_H32 m_off_117_b89
      simp only [go, or0, or_eq x (show x < 8 by omega) _ (show ofn σ0 q S x < 128 by omega) hl]
      rw [h8, v0 h, if_neg (nI_ge hx (by omega)), m_has_eq (by omega) (by omega), bd_s]
      by_cases hb : S.testBit x = true
      · rw [if_pos hb, if_pos hb, if_neg (by decide)]
      · rw [if_neg hb, if_neg hb, if_pos rfl, i49, inB_t (by omega) (by omega), gd_t, cl_n (by omega), h8]
        by_cases hh : hsB σ0 x = false
        · rw [if_pos (h12.mpr hh), if_pos hh]
        · rw [if_neg (fun w => hh (h12.mp w)), if_neg hh]
    by_cases hb : S.testBit x = true
    · refine ⟨τ, ?_, f⟩
      rw [st, if_pos hb, un, if_neg (by unfold ofB; simp [hb])]; rfl
    · by_cases hh : hsB σ0 x = false
      · refine ⟨τ, ?_, f⟩
        rw [st, if_neg hb, if_pos hh, un, if_neg (by unfold ofB; simp [hh])]; rfl
      · have hh' : hsB σ0 x = true := by simpa using hh
        obtain ⟨τ2, y1, y2, y3⟩ := res_at (τ := τ) h h8 hS hx hc
        have h82 : τ2.1 118 = σ0.1 118 := (FR_i y2 (by decide)).trans h8
        have hu := malike (R := RS σ0 q S x) h h82 (fun p hp => ⟨y3 p hp, RS_le h hx p hp⟩) (off_hs hc hh' hs)
        refine ⟨τ2, ?_, FR_trans f y2⟩
        rw [st, if_neg hb, if_neg hh, y1, bd_s, if_neg (by decide), hu, bd_s, un]
        simp at hb
        by_cases gu : ubB (RS σ0 q S x) σ0 q = true
        · rw [if_pos gu, if_pos rfl, if_pos (by unfold ofB; simp [hb, hh', gu])]
        · rw [if_neg gu, if_neg (by decide), if_neg (by unfold ofB; simp [gu])]; rfl
  · rintro m τ f
    refine ⟨τ, ?_, f⟩
    show m_off_117_H32 (m_off_117_L32 m) (nI S) _ (nI q) τ = _
    unfold m_off_117_H32
    rw [FR_i f (by decide), h80, v0 h, if_pos (nI_le (by omega) (by omega))]
theorem op_off {n q ver : Nat} {σ : Sg} (hn : n < 512) (h : VV n q ver σ) (a : Int32) : ∃ r σ1 σ2, j_off_0 a σ = some (r, σ1) ∧ m_off_117 a σ1 = some (r, σ2) ∧ VI (n + 1) σ2 := by
  have hq := vq h
  have h2 := pw_256 hq
  unfold j_off_0 j_off_0_b36 m_off_117
  rcases in_out a (q := 2 ^ q) (by omega) with o | ⟨S, hS, rfl⟩
  · refine ⟨-1, rj 1 σ, rm 1 (rj 1 σ), ?_, ?_, fin_ref hn (by omega) (by omega) h (Kp_refl _) (Kp_refl _)⟩
    · rw [jset_out h o, bd_s, if_pos rfl, jr1, bd_s]
    · rw [mset_out (by rw [rj_118]; exact v0 h) hq o, bd_s, if_pos rfl, mr1, bd_s]
  · rcases jchoose h hS with ⟨g, σ1, w1, w2, w3⟩ | ⟨g, σ1, w1, w2⟩
    · have k1 : Kp σ σ1 := Kp_S w2 (by decide)
      have hv1 := VV_kp h k1
      have h81 := K118 k1
      rcases jhave hv1 hS with ⟨hh, gs⟩ | ⟨hh, gs⟩
      · have gs' : ∀ p, p < q → S.testBit p = true → hsB σ p = true := fun p hp hb => by rw [← hs_fr h81]; exact gs p hp hb
        obtain ⟨σ2, y1, y2⟩ := joff h k1 hS g w3 gs'
        have k12 : Kp σ σ2 := Kp_trans k1 (Kp_S y2 (by decide))
        have h82 := K118 k12
        have hv2 := VV_kp h k12
        obtain ⟨τ1, t1, ht⟩ := mscal (τ := σ2) h h82 hS
        have ht1 : m_isScaled_117 (nI S) σ2 = some (1, τ1) := by
          rcases ht with ⟨e, _⟩ | ⟨_, e⟩
          · exact e
          · exact absurd ⟨g, gs'⟩ e
        obtain ⟨τ2, z1, z2⟩ := moff (σ := τ1) h ((FR_i t1 (by decide)).trans h82) hS g gs'
        refine ⟨nI (ofn σ q S q), σ2, τ2, ?_, ?_, fin_kp hn hv2 (Kp_trans (Kp_S t1 (by decide)) (Kp_S z2 (by decide)))⟩
        · rw [jset_in h hS, bd_s, if_neg (by decide), w1, bd_s, if_neg (by decide), hh, bd_s, if_neg (by decide), y1]
        · rw [mset_in (v0 hv2) hq hS, bd_s, if_neg (by decide), ht1, bd_s, if_neg (by decide), z1]
      · obtain ⟨τ1, t1, ht⟩ := mscal (τ := rj 3 σ1) h (rj_118.trans h81) hS
        have ht1 : m_isScaled_117 (nI S) (rj 3 σ1) = some (0, τ1) := by
          rcases ht with ⟨_, _, e⟩ | ⟨e, _⟩
          · exact absurd (fun p hp hb => by rw [hs_fr h81]; exact e p hp hb) gs
          · exact e
        refine ⟨-3, rj 3 σ1, rm 3 τ1, ?_, ?_, fin_ref hn (by omega) (by omega) h k1 (Kp_S t1 (by decide))⟩
        · rw [jset_in h hS, bd_s, if_neg (by decide), w1, bd_s, if_neg (by decide), hh, bd_s, if_pos rfl, jr3, bd_s]
        · rw [mset_in (by rw [rj_118, h81]; exact v0 h) hq hS, bd_s, if_neg (by decide), ht1, bd_s, if_pos rfl, mr3, bd_s]
    · have k1 : Kp σ σ1 := Kp_S w2 (by decide)
      have h81 := K118 k1
      obtain ⟨τ1, t1, ht⟩ := mscal (τ := rj 3 σ1) h (rj_118.trans h81) hS
      have ht1 : m_isScaled_117 (nI S) (rj 3 σ1) = some (0, τ1) := by
        rcases ht with ⟨_, e, _⟩ | ⟨e, _⟩
        · exact absurd e g
        · exact e
      refine ⟨-3, rj 3 σ1, rm 3 τ1, ?_, ?_, fin_ref hn (by omega) (by omega) h k1 (Kp_S t1 (by decide))⟩
      · rw [jset_in h hS, bd_s, if_neg (by decide), w1, bd_s, if_pos rfl, jr3, bd_s]
      · rw [mset_in (by rw [rj_118, h81]; exact v0 h) hq hS, bd_s, if_neg (by decide), ht1, bd_s, if_pos rfl, mr3, bd_s]
