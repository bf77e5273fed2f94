/-! ===== PURE: rest, sizes ===== -/
theorem chB_fr {σ σ' : Sg} (h8 : σ'.1 118 = σ.1 118) (q S : Nat) : chB σ' q S = chB σ q S := by unfold chB RK; rw [(same118 h8).1]
theorem RS_fr {σ σ' : Sg} (h8 : σ'.1 118 = σ.1 118) (q S x p : Nat) : RS σ' q S x p = RS σ q S x p := by unfold RS; rw [(same118 h8).1]
/-- the reference's choice, wherever the model is the same -/
theorem cho_at {n q ver S : Nat} {σ τ : Sg} (h : VV n q ver σ) (h8 : τ.1 118 = σ.1 118) (hS : S < 2 ^ q) : ∃ σ', m_isChosen_117 (nI S) τ = some (if chB σ q S = true then 1 else 0, σ') ∧ FR [123, 124] τ σ' := by
  obtain ⟨e1, e2, e3, e4, e5⟩ := same118 h8
  have := mchosen (σ := τ) (q := q) (S := S) (by rw [h8]; exact v0 h) (vq h) (by rw [e1, e2]; exact vA h) hS
  rw [chB_fr h8] at this; exact this
theorem res_at {n q ver S x : Nat} {σ τ : Sg} (h : VV n q ver σ) (h8 : τ.1 118 = σ.1 118) (hS : S < 2 ^ q) (hx : x < q) (hc : chB σ q S = true) : ∃ σ', m_isHad_117 (nI S) (nI x) τ = some (1, σ') ∧ FR [123, 124] τ σ' ∧ ∀ p, p < q → (σ'.2 124 p).toInt = RS σ q S x p := by
  obtain ⟨e1, e2, e3, e4, e5⟩ := same118 h8
  obtain ⟨σ', w1, w2, w3⟩ := mrest (σ := τ) (q := q) (S := S) (x := x) (by rw [h8]; exact v0 h) (vq h) (by rw [e1, e2]; exact vA h) hS hx (by rw [chB_fr h8]; exact hc)
  exact ⟨σ', w1, w2, fun p hp => by rw [w3 p hp, RS_fr h8]⟩
theorem joth_in {n q ver S x : Nat} {σ : Sg} (h : VV n q ver σ) (hS : S < 2 ^ q) (hx : x < q) (hb : ¬ S.testBit x = true) : j_isOutside_0 (nI S) (nI x) σ = some (1, σ) := by
  have hq := vq h
  have h2 := pw_256 hq
  unfold j_isOutside_0 j_isOutside_0_b29
  rw [jset_in h hS, bd_s, if_neg (by decide), jq_in hq (v_118 h).2.1 hx, bd_s, if_neg (by decide), j_bit_eq (by omega) (by omega), bd_s, if_neg hb, if_pos rfl]; rfl
theorem joth_s {n q ver : Nat} {a b : Int32} {σ : Sg} (h : VV n q ver σ) (ho : out a (2 ^ q)) : j_isOutside_0 a b σ = some (0, σ) := by
  unfold j_isOutside_0 j_isOutside_0_b28 j_isOutside_0_b29
  rw [jset_out h ho, bd_s, if_pos rfl]; rfl
theorem joth_q {n q ver S : Nat} {b : Int32} {σ : Sg} (h : VV n q ver σ) (hS : S < 2 ^ q) (ho : out b q) : j_isOutside_0 (nI S) b σ = some (0, σ) := by
  unfold j_isOutside_0 j_isOutside_0_b28 j_isOutside_0_b29
  rw [jset_in h hS, bd_s, if_neg (by decide), jq_out (v_118 h).2.1 ho, bd_s, if_pos rfl]; rfl
theorem joth_b {n q ver S x : Nat} {σ : Sg} (h : VV n q ver σ) (hS : S < 2 ^ q) (hx : x < q) (hb : S.testBit x = true) : j_isOutside_0 (nI S) (nI x) σ = some (0, σ) := by
  have hq := vq h
  have h2 := pw_256 hq
  unfold j_isOutside_0 j_isOutside_0_b28 j_isOutside_0_b29
  rw [jset_in h hS, bd_s, if_neg (by decide), jq_in hq (v_118 h).2.1 hx, bd_s, if_neg (by decide), j_bit_eq (by omega) (by omega), bd_s, if_pos hb, if_neg (by decide)]; rfl
theorem op_rest {n q ver : Nat} {σ : Sg} (hn : n < 512) (h : VV n q ver σ) (a b c : Int32) : ∃ r σ1 σ2, j_rest_0 a b c σ = some (r, σ1) ∧ m_rest_117 a b c σ1 = some (r, σ2) ∧ VI (n + 1) σ2 := by
  have hq := vq h
  have h2 := pw_256 hq
  have h1 := (v_118 h).2.1
  have h0r : (rj 1 σ).1 118 0 = nI q := by rw [rj_118]; exact v0 h
  unfold j_rest_0 j_rest_0_b17 m_rest_117 m_rest_117_b32
  have ref := fin_ref (k := 1) hn (by omega) (by omega) h (Kp_refl σ) (Kp_refl (rj 1 σ))
  rcases in_out a (q := 2 ^ q) (by omega) with o | ⟨S, hS, rfl⟩
  · refine ⟨1000000000 - (-1), rj 1 σ, rm 1 (rj 1 σ), ?_, ?_, ref⟩
    · rw [joth_s h o, bd_s, if_pos rfl, jrf1, bd_s]
    · rw [mset_out h0r hq o, bd_s, if_pos rfl, mrf1, bd_s]
  · rcases in_out b (q := q) (by omega) with o | ⟨x, hx, rfl⟩
    · refine ⟨1000000000 - (-1), rj 1 σ, rm 1 (rj 1 σ), ?_, ?_, ref⟩
      · rw [joth_q h hS o, bd_s, if_pos rfl, jrf1, bd_s]
      · rw [mset_in h0r hq hS, bd_s, if_neg (by decide), mq_out hq h0r o, bd_s, if_pos rfl, mrf1, bd_s]
    · by_cases hb : S.testBit x = true
      · refine ⟨1000000000 - (-1), rj 1 σ, rm 1 (rj 1 σ), ?_, ?_, ref⟩
        · rw [joth_b h hS hx hb, bd_s, if_pos rfl, jrf1, bd_s]
        · rw [mset_in h0r hq hS, bd_s, if_neg (by decide), mq_in hq h0r hx, bd_s, if_neg (by decide), m_has_eq (by omega) (by omega), bd_s, if_pos hb, if_neg (by decide), mrf1, bd_s]
      · rcases in_out c (q := q) (by omega) with o | ⟨p, hp, rfl⟩
        · refine ⟨1000000000 - (-1), rj 1 σ, rm 1 (rj 1 σ), ?_, ?_, ref⟩
          · rw [joth_in h hS hx hb, bd_s, if_neg (by decide), jq_out h1 o, bd_s, if_pos rfl, jrf1, bd_s]
          · rw [mset_in h0r hq hS, bd_s, if_neg (by decide), mq_in hq h0r hx, bd_s, if_neg (by decide), m_has_eq (by omega) (by omega), bd_s, if_neg hb, if_pos rfl, mq_out hq h0r o, bd_s, if_pos rfl, mrf1, bd_s]
        · rcases jchoose h hS with ⟨g, σ1, w1, w2, w3⟩ | ⟨g, σ1, w1, w2⟩
          · have k1 : Kp σ σ1 := Kp_S w2 (by decide)
            have hE := vEQ h S
            obtain ⟨σ2, y1, y2, y3, y4⟩ := jrel_71_113 hq hE w3 hx (by rw [(chB_iff.mp g).2]; exact hb)
            have k2 : Kp σ1 σ2 := Kp_S y2 (by decide)
            have k12 := Kp_trans k1 k2
            have hv2 := VV_kp h k12
            obtain ⟨σ3, x1, x2⟩ := cho_at (τ := σ2) h (K118 k12) hS
            rw [if_pos g] at x1
            obtain ⟨σ4, z1, z2, z3⟩ := res_at (τ := σ3) h ((show σ3.1 118 = σ2.1 118 from FR_i x2 (by decide)).trans (K118 k12)) hS hx g
            refine ⟨σ2.1 113 p, σ2, σ4, ?_, ?_, fin_kp hn hv2 (Kp_trans (Kp_S x2 (by decide)) (Kp_S z2 (by decide)))⟩
            · rw [joth_in h hS hx hb, bd_s, if_neg (by decide), jq_in hq h1 hp, bd_s, if_neg (by decide), w1, bd_s, if_neg (by decide), y1, bd_s, inB_t (by omega) (by omega), gd_t, cl_n (by omega)]
            · rw [mset_in (v0 hv2) hq hS, bd_s, if_neg (by decide), mq_in hq (v0 hv2) hx, bd_s, if_neg (by decide), m_has_eq (by omega) (by omega), bd_s, if_neg hb, if_pos rfl, mq_in hq (v0 hv2) hp, bd_s, if_neg (by decide), x1, bd_s, if_neg (by decide), z1, bd_s, inB_t (by omega) (by omega), gd_t, cl_n (by omega), eq32 (y3 p hp) (z3 p hp) (rl_le hE hx hp)]
          · have k1 : Kp σ σ1 := Kp_S w2 (by decide)
            have h0' : (rj 3 σ1).1 118 0 = nI q := by rw [rj_118, K118 k1]; exact v0 h
            obtain ⟨σ3, x1, x2⟩ := cho_at (τ := rj 3 σ1) h (rj_118.trans (K118 k1)) hS
            rw [if_neg g] at x1
            refine ⟨1000000000 - (-3), rj 3 σ1, rm 3 σ3, ?_, ?_, fin_ref hn (by omega) (by omega) h k1 (Kp_S x2 (by decide))⟩
            · rw [joth_in h hS hx hb, bd_s, if_neg (by decide), jq_in hq h1 hp, bd_s, if_neg (by decide), w1, bd_s, if_pos rfl, jrf3, bd_s]
            · rw [mset_in h0' hq hS, bd_s, if_neg (by decide), mq_in hq h0' hx, bd_s, if_neg (by decide), m_has_eq (by omega) (by omega), bd_s, if_neg hb, if_pos rfl, mq_in hq h0' hp, bd_s, if_neg (by decide), x1, bd_s, if_pos rfl, mrf3, bd_s]
/-! sizes of rests -/
theorem sza_fr {σ σ' : Sg} (h8 : σ'.1 118 = σ.1 118) (q S x : Nat) : ∀ p, sza σ' q S x p = sza σ q S x p
  | 0 => rfl
  | p + 1 => by
    show sza σ' q S x p + ((RS σ' q S x p).natAbs : Int) = sza σ q S x p + ((RS σ q S x p).natAbs : Int)
    rw [sza_fr h8 q S x p, RS_fr h8]
theorem szt_fr {σ σ' : Sg} (h8 : σ'.1 118 = σ.1 118) (q S : Nat) : ∀ x, szt σ' q S x = szt σ q S x
  | 0 => rfl
  | x + 1 => by
    show szt σ' q S x + (if S.testBit x = true then 0 else sza σ' q S x q) = szt σ q S x + (if S.testBit x = true then 0 else sza σ q S x q)
    rw [szt_fr h8 q S x, sza_fr h8]
theorem sza_le {σ : Sg} {q S x : Nat} (hE : EQ q (ets (mA σ) S q)) (hx : x < q) : ∀ p, p ≤ q → 0 ≤ sza σ q S x p ∧ sza σ q S x p ≤ p * 384000000
  | 0, _ => ⟨Int.le_refl _, Int.le_refl _⟩
  | p + 1, hp => by
    have ih := sza_le hE hx p (by omega)
    have hl := rl_le hE hx (show p < q by omega)
    show 0 ≤ sza σ q S x p + ((RS σ q S x p).natAbs : Int) ∧ sza σ q S x p + ((RS σ q S x p).natAbs : Int) ≤ _
    unfold RS
    omega
theorem szt_le {σ : Sg} {q S : Nat} (hq : q ≤ 8) (hE : EQ q (ets (mA σ) S q)) : ∀ x, x ≤ q → 0 ≤ szt σ q S x ∧ szt σ q S x ≤ x * 3072000000
  | 0, _ => ⟨Int.le_refl _, Int.le_refl _⟩
  | x + 1, hx => by
    have ih := szt_le hq hE x (by omega)
    have hs := sza_le hE (show x < q by omega) q (Nat.le_refl _)
    show 0 ≤ szt σ q S x + (if S.testBit x = true then 0 else sza σ q S x q) ∧ szt σ q S x + (if S.testBit x = true then 0 else sza σ q S x q) ≤ _
    split <;> omega
theorem jsz_in {k4 : Int64 → Int32 → Sg → Option (Int64 × Sg)} {q S x : Nat} {v : Int64} {vz : Int} {σ : Sg} (h : V70 q σ) (hx : x < q) (hv : v.toInt = vz) (hvz : 0 ≤ vz ∧ vz ≤ 24576000000) (hp : ∀ p, p < q → (σ.1 79 p).toInt = RS σ q S x p) (hz : ∀ p, q ≤ p → p < 8 → σ.1 79 p = 0) : ∃ r : Int64, j_sizesOfRests_70_L55 k4 fu v (nI x) 8 0 σ = k4 r (nI (x + 1)) σ ∧ r.toInt = vz + sza σ q S x q := by
  have hq := h.1
  have hE := EQ_ok (mA_Z h.2.1) S
  refine loopE (L := fun m p (s : Int64) => j_sizesOfRests_70_L55 k4 m s (nI x) 8 (nI p) σ) (N := 8) (P := fun p s => s.toInt = vz + sza σ q S x (min p q)) (Q := fun r => ∃ r' : Int64, r = k4 r' (nI (x + 1)) σ ∧ r'.toInt = vz + sza σ q S x q) ?_ ?_ (by decide) ?_
  · rintro m p s hp8 g
    have hs := sza_le hE hx (min p q) (by omega)
    have hst : j_sizesOfRests_70_L55 k4 (m + 1) s (nI x) 8 (nI p) σ = j_sizesOfRests_70_L55 k4 m (s + (iabs (σ.1 79 p)).toInt64) (nI x) 8 (nI (p + 1)) σ := by
      show j_sizesOfRests_70_H55 k4 (j_sizesOfRests_70_L55 k4 m) s (nI x) 8 (nI p) σ = _
      unfold j_sizesOfRests_70_H55
      rw [if_neg (show ¬ (8 : Int32) ≤ nI p from nI_ge (b := 8) hp8 (by decide)), inB_t (by omega) (by omega), gd_t, cl_n (by omega), nI_1]
    refine ⟨_, hst, ?_⟩
    by_cases g2 : p < q
    · have hl := rl_le hE hx g2
      have hr : (σ.1 79 p).toInt = RS σ q S x p := hp p g2
      have hrl : (RS σ q S x p).natAbs ≤ 384000000 := hl
      have hi : (iabs (σ.1 79 p)).toInt64.toInt = ((RS σ q S x p).natAbs : Int) := by
        rw [Int32.toInt_toInt64, iabs_int (by omega), hr]
      have m1 : min p q = p := by omega
      have m2 : min (p + 1) q = p + 1 := by omega
      rw [m1] at g hs
      rw [m2, L_add g hi (by omega) (by omega)]
      show _ = vz + (sza σ q S x p + ((RS σ q S x p).natAbs : Int))
      omega
    · have hi : (iabs (σ.1 79 p)).toInt64.toInt = 0 := by rw [hz p (by omega) hp8]; decide
      have m1 : min p q = q := by omega
      have m2 : min (p + 1) q = q := by omega
      rw [m1] at g hs
      rw [m2, L_add g hi (by omega) (by omega)]
      omega
  · rintro m s g
    refine ⟨s, ?_, by rw [g, show min 8 q = q by omega]⟩
    show j_sizesOfRests_70_H55 k4 (j_sizesOfRests_70_L55 k4 m) s (nI x) 8 (nI 8) σ = _
    unfold j_sizesOfRests_70_H55 j_sizesOfRests_70_b84
    rw [if_pos (show (8 : Int32) ≤ nI 8 by decide), nI_1]
  · rw [show min 0 q = 0 by omega]; show v.toInt = vz + 0; omega
theorem jsizes {q S : Nat} {σ : Sg} (h : V70 q σ) (hS : S < 2 ^ q) (hc : chB σ q S = true) (hE : EL 71 72 78 q (ets (mA σ) S q) σ) : ∃ r σ', j_sizesOfRests_70 σ = some (r, σ') ∧ r.toInt = szt σ q S q ∧ FR [79] σ σ' := by
  have hq := h.1
  have h2 := pw_256 hq
  have hEQ := EQ_ok (mA_Z h.2.1) S
  have hP := (chB_iff.mp hc).2
  unfold j_sizesOfRests_70
  refine loopE (L := fun m x (s : Int64 × Sg) => j_sizesOfRests_70_L4 m s.1 (nI x) s.2) (N := q) (s := ((0 : Int64), σ)) (P := fun x s => s.1.toInt = szt σ q S x ∧ FR [79] σ s.2) (Q := fun r => ∃ r' σ', r = some (r', σ') ∧ r'.toInt = szt σ q S q ∧ FR [79] σ σ') ?_ ?_ (fu_lt (by omega)) ⟨rfl, FR_refl _ _⟩
  · rintro m x ⟨s, τ⟩ hx ⟨g, f⟩
    dsimp only at g f ⊢
    have hv := V70_fr h (fun c hc => f c (FR_1 (by omega)))
    have h8 : τ.1 118 = σ.1 118 := FR_i f (by decide)
    have hsl := szt_le hq hEQ x (by omega)
    have hEτ : EL 71 72 78 q (ets (mA σ) S q) τ := EL_fr hE (FR_i f (by decide)) (FR_l f (by decide)) (fun r hr => FR_l f (by rcases lt5 hr with rfl | rfl | rfl | rfl | rfl <;> decide)) (FR_i f (by decide))
    have h4 : τ.1 71 4 = nI S := by rw [hEτ.2.2.1, hP]
    have st : j_sizesOfRests_70_L4 (m + 1) s (nI x) τ = if S.testBit x = true then j_sizesOfRests_70_L4 m s (nI (x + 1)) τ else bd (j_relation_71_79 (nI x) τ) fun _ σ2 => j_sizesOfRests_70_L55 (j_sizesOfRests_70_L4 m) fu s (nI x) 8 0 σ2 := by
      show j_sizesOfRests_70_H4 (j_sizesOfRests_70_L4 m) s (nI x) τ = _
      unfold j_sizesOfRests_70_H4 j_sizesOfRests_70_b84
      rw [hv.2.2.1, if_neg (nI_ge hx (by omega)), h4, j_bit_eq (by omega) (by omega), bd_s, nI_1]
      by_cases hb : S.testBit x = true
      · rw [if_pos hb, if_pos hb, if_neg (by decide)]
      · rw [if_neg hb, if_neg hb, if_pos rfl]
    by_cases hb : S.testBit x = true
    · refine ⟨(s, τ), by rw [st, if_pos hb], ?_, f⟩
      show s.toInt = szt σ q S x + (if S.testBit x = true then 0 else sza σ q S x q)
      rw [if_pos hb, g]; omega
    · obtain ⟨σ2, y1, y2, y3, y4⟩ := jrel_71_79 hq hEQ hEτ hx (by rw [hP]; exact hb)
      have hv2 := V70_fr hv (fun c hc => y2 c (FR_1 (by omega)))
      have h82 : σ2.1 118 = σ.1 118 := (show σ2.1 118 = τ.1 118 from FR_i y2 (by decide)).trans h8
      obtain ⟨r, z1, z2⟩ := jsz_in (k4 := j_sizesOfRests_70_L4 m) (S := S) (x := x) hv2 hx g (by omega) (fun p hp => by rw [y3 p hp, RS_fr h82]; rfl) y4
      refine ⟨(r, σ2), by rw [st, if_neg hb, y1, bd_s, z1], ?_, FR_trans f y2⟩
      show r.toInt = szt σ q S x + (if S.testBit x = true then 0 else sza σ q S x q)
      rw [z2, if_neg hb, sza_fr h82]
  · rintro m ⟨s, τ⟩ ⟨g, f⟩
    dsimp only at g f ⊢
    have hv := V70_fr h (fun c hc => f c (FR_1 (by omega)))
    refine ⟨s, τ, ?_, g, f⟩
    show j_sizesOfRests_70_H4 (j_sizesOfRests_70_L4 m) s (nI q) τ = _
    unfold j_sizesOfRests_70_H4
    rw [hv.2.2.1, if_pos (nI_le (by omega) (by omega))]
theorem msz_in {k5 : Int32 → Int64 → Int32 → Sg → Option (Int64 × Sg)} {q S x : Nat} {v1 : Int32} {v : Int64} {vz : Int} {σ σ0 : Sg} (hq : q ≤ 8) (h0 : σ.1 118 0 = nI q) (hE : EQ q (ets (mA σ0) S q)) (hx : x < q) (hv : v.toInt = vz) (hvz : 0 ≤ vz ∧ vz ≤ 24576000000) (hp : ∀ p, p < q → (σ.2 124 p).toInt = RS σ0 q S x p) : ∃ r : Int64, m_sizesOf_117_L41 k5 fu v1 v (nI x) 0 σ = k5 v1 r (nI (x + 1)) σ ∧ r.toInt = vz + sza σ0 q S x q := by
  refine loopE (L := fun m p (s : Int64) => m_sizesOf_117_L41 k5 m v1 s (nI x) (nI p) σ) (N := q) (P := fun p s => s.toInt = vz + sza σ0 q S x p) (Q := fun r => ∃ r' : Int64, r = k5 v1 r' (nI (x + 1)) σ ∧ r'.toInt = vz + sza σ0 q S x q) ?_ ?_ (fu_lt (by omega)) ?_
  · rintro m p s hpq g
    have hs := sza_le hE hx p (by omega)
    have hl : (RS σ0 q S x p).natAbs ≤ 384000000 := rl_le hE hx hpq
    have hst : m_sizesOf_117_L41 k5 (m + 1) v1 s (nI x) (nI p) σ = m_sizesOf_117_L41 k5 m v1 (s + labs (σ.2 124 p)) (nI x) (nI (p + 1)) σ := by
      show m_sizesOf_117_H41 k5 (m_sizesOf_117_L41 k5 m) v1 s (nI x) (nI p) σ = _
      unfold m_sizesOf_117_H41 m_sizesOf_117_b83
      rw [h0, if_neg (nI_ge hpq (by omega)), inB_t (by omega) (by omega), gd_t, gd_t, gd_t, cl_n (by omega), nI_1, ← labs_if]
      split <;> rfl
    refine ⟨_, hst, ?_⟩
    have hi := L_abs (hp p hpq) (by omega)
    rw [L_add g hi (by omega) (by omega)]
    show _ = vz + (sza σ0 q S x p + ((RS σ0 q S x p).natAbs : Int))
    omega
  · rintro m s g
    refine ⟨s, ?_, g⟩
    show m_sizesOf_117_H41 k5 (m_sizesOf_117_L41 k5 m) v1 s (nI x) (nI q) σ = _
    unfold m_sizesOf_117_H41 m_sizesOf_117_b91
    rw [h0, if_pos (nI_le (by omega) (by omega)), nI_1]
  · show v.toInt = vz + 0; omega
theorem msizes {n q ver S : Nat} {σ τ0 : Sg} (h : VV n q ver σ) (h80 : τ0.1 118 = σ.1 118) (hS : S < 2 ^ q) (hc : chB σ q S = true) : ∃ r σ', m_sizesOf_117 (nI S) τ0 = some (r, σ') ∧ r.toInt = szt σ q S q ∧ FR [123, 124] τ0 σ' := by
  have hq := vq h
  have h2 := pw_256 hq
  have hEQ := vEQ h S
  unfold m_sizesOf_117
  refine loopE (L := fun m x (s : Int64 × Sg) => m_sizesOf_117_L5 m (nI S) s.1 (nI x) s.2) (N := q) (s := ((0 : Int64), τ0)) (P := fun x s => s.1.toInt = szt σ q S x ∧ FR [123, 124] τ0 s.2) (Q := fun r => ∃ r' σ', r = some (r', σ') ∧ r'.toInt = szt σ q S q ∧ FR [123, 124] τ0 σ') ?_ ?_ (fu_lt (by omega)) ⟨rfl, FR_refl _ _⟩
  · rintro m x ⟨s, τ⟩ hx ⟨g, f⟩
    dsimp only at g f ⊢
    have h8 : τ.1 118 = σ.1 118 := (FR_i f (by decide)).trans h80
    have hsl := szt_le hq hEQ x (by omega)
    have st : m_sizesOf_117_L5 (m + 1) (nI S) s (nI x) τ = if S.testBit x = true then m_sizesOf_117_L5 m (nI S) s (nI (x + 1)) τ else bd (m_isHad_117 (nI S) (nI x) τ) fun r2 σ2 => if r2 = 0 then m_sizesOf_117_b91 (m_sizesOf_117_L5 m) (nI S) s (nI x) σ2 else m_sizesOf_117_L41 (m_sizesOf_117_L5 m) fu (nI S) s (nI x) 0 σ2 := by
      show m_sizesOf_117_H5 (m_sizesOf_117_L5 m) (nI S) s (nI x) τ = _
      unfold m_sizesOf_117_H5 m_sizesOf_117_b91
      rw [h8, v0 h, if_neg (nI_ge hx (by omega)), m_has_eq (by omega) (by omega), bd_s, nI_1]
      by_cases hb : S.testBit x = true
      · rw [if_pos hb, if_pos hb, if_neg (by decide)]
      · rw [if_neg hb, if_neg hb, if_pos rfl]
    by_cases hb : S.testBit x = true
    · refine ⟨(s, τ), by rw [st, if_pos hb], ?_, f⟩
      show s.toInt = szt σ q S x + (if S.testBit x = true then 0 else sza σ q S x q)
      rw [if_pos hb, g]; omega
    · obtain ⟨σ2, y1, y2, y3⟩ := res_at (τ := τ) h h8 hS hx hc
      have h82 : σ2.1 118 = σ.1 118 := (FR_i y2 (by decide)).trans h8
      obtain ⟨r, z1, z2⟩ := msz_in (k5 := m_sizesOf_117_L5 m) (v1 := nI S) (σ := σ2) hq (by rw [h82]; exact v0 h) hEQ hx g (by omega) y3
      refine ⟨(r, σ2), by rw [st, if_neg hb, y1, bd_s, if_neg (by decide), z1], ?_, FR_trans f y2⟩
      show r.toInt = szt σ q S x + (if S.testBit x = true then 0 else sza σ q S x q)
      rw [z2, if_neg hb]
  · rintro m ⟨s, τ⟩ ⟨g, f⟩
    dsimp only at g f ⊢
    refine ⟨s, τ, ?_, g, f⟩
    show m_sizesOf_117_H5 (m_sizesOf_117_L5 m) (nI S) s (nI q) τ = _
    unfold m_sizesOf_117_H5
    rw [FR_i f (by decide), h80, v0 h, if_pos (nI_le (by omega) (by omega))]
theorem op_sizes {n q ver : Nat} {σ : Sg} (hn : n < 512) (h : VV n q ver σ) (a : Int32) : ∃ r σ1 σ2, j_sizes_0 a σ = some (r, σ1) ∧ m_sizes_117 a σ1 = some (r, σ2) ∧ VI (n + 1) σ2 := by
  have hq := vq h
  have h2 := pw_256 hq
  unfold j_sizes_0 m_sizes_117 m_sizes_117_b35
  rcases in_out a (q := 2 ^ q) (by omega) with o | ⟨S, hS, rfl⟩
  · refine ⟨4000000000000000000 - (-1 : Int32).toInt64, rj 1 σ, rm 1 (rj 1 σ), ?_, ?_, fin_ref hn (by omega) (by omega) h (Kp_refl _) (Kp_refl _)⟩
    · rw [jset_out h o, bd_s, if_pos rfl, jl1, bd_s]
    · rw [mset_out (by rw [rj_118]; exact v0 h) hq o, bd_s, if_pos rfl, ml_1, bd_s]
  · rcases jchoose h hS with ⟨g, σ1, w1, w2, w3⟩ | ⟨g, σ1, w1, w2⟩
    · have k1 : Kp σ σ1 := Kp_S w2 (by decide)
      have hv := VV_kp h k1
      have h8 := K118 k1
      obtain ⟨r, σ2, y1, y2, y3⟩ := jsizes (v7 hv) hS (by rw [chB_fr h8]; exact g) (by rw [(same118 h8).1]; exact w3)
      have k2 : Kp σ1 σ2 := Kp_S y3 (by decide)
      have k12 := Kp_trans k1 k2
      have hv2 := VV_kp h k12
      obtain ⟨σ3, x1, x2⟩ := cho_at (τ := σ2) h (K118 k12) hS
      rw [if_pos g] at x1
      obtain ⟨r', σ4, z1, z2, z3⟩ := msizes (τ0 := σ3) h ((show σ3.1 118 = σ2.1 118 from FR_i x2 (by decide)).trans (K118 k12)) hS g
      have hr : r' = r := L_eq (by rw [z2, y2, szt_fr h8])
      refine ⟨r, σ2, σ4, ?_, ?_, fin_kp hn hv2 (Kp_trans (Kp_S x2 (by decide)) (Kp_S z3 (by decide)))⟩
      · rw [jset_in h hS, bd_s, if_neg (by decide), w1, bd_s, if_neg (by decide), y1, bd_s]
      · rw [mset_in (v0 hv2) hq hS, bd_s, if_neg (by decide), x1, bd_s, if_neg (by decide), z1, bd_s, hr]
    · have k1 : Kp σ σ1 := Kp_S w2 (by decide)
      obtain ⟨σ3, x1, x2⟩ := cho_at (τ := rj 3 σ1) h (rj_118.trans (K118 k1)) hS
      rw [if_neg g] at x1
      refine ⟨4000000000000000000 - (-3 : Int32).toInt64, rj 3 σ1, rm 3 σ3, ?_, ?_, fin_ref hn (by omega) (by omega) h k1 (Kp_S x2 (by decide))⟩
      · rw [jset_in h hS, bd_s, if_neg (by decide), w1, bd_s, if_pos rfl, jl3, bd_s]
      · rw [mset_in (by rw [rj_118, K118 k1]; exact v0 h) hq hS, bd_s, if_neg (by decide), x1, bd_s, if_pos rfl, ml_3, bd_s]
