/-! ===== PURE: taken, scaled, count ===== -/
def und (κ k : Nat) : Bool := decide (k = 0) || decide (κ = k) || (decide (κ = 3) && decide (k = 1)) || (decide (κ = 5) && decide (k = 2))
theorem sv_un : sv 1000 0 = -1 ∧ sv 1000 1 = nI 0 ∧ sv 1000 2 = nI 0 ∧ sv 1000 3 = nI 1 ∧ sv 1000 4 = nI 0 ∧ sv 1000 5 = nI 2 := by decide +kernel
theorem jt_s {a k x s n : Nat} {σ : Sg} (ha : a < 8) (hk : k < 6) (hx : x < 6) (hs : s < 6) : j_taken_0_L41 (n + 1) (nI a) (nI k) (nI x) (nI s) σ = if x = k then some (σ.1 2 a, σ) else j_taken_0_L41 n (nI a) (nI k) (sv 1000 x) (nI (s + 1)) σ := by
  show j_taken_0_H41 (j_taken_0_L41 n) _ _ (nI x) (nI s) σ = _
  unfold j_taken_0_H41
  rw [if_neg (show ¬ (6 : Int32) ≤ nI s from nI_ge (b := 6) hs (by decide)), jki_in hx, bd_s, if_neg (by decide), inB_t (by omega) (by omega), inB_t (by omega) (by omega), gd_t, gd_t, cl_n (by omega), cl_n (by omega), nI_1]
  by_cases e : x = k
  · rw [if_pos (by rw [e]), if_pos e]
  · rw [if_neg (fun w => e ((nI_eq (by omega) (by omega)).mp w)), if_neg e]
theorem jt_e {a k s n : Nat} {σ : Sg} (hs : s < 6) : j_taken_0_L41 (n + 1) (nI a) (nI k) (-1) (nI s) σ = some (-16, σ) := by
  show j_taken_0_H41 (j_taken_0_L41 n) _ _ (-1) (nI s) σ = _
  unfold j_taken_0_H41 j_taken_0_b82
  rw [if_neg (show ¬ (6 : Int32) ≤ nI s from nI_ge (b := 6) hs (by decide)), jki_out (Or.inl (by decide)), bd_s, if_pos rfl]
theorem jt {a k κ : Nat} {σ : Sg} (ha : a < 8) (hk : k < 6) (hκ : κ < 6) (n : Nat) : j_taken_0_L41 (n + 4) (nI a) (nI k) (nI κ) (nI 0) σ = if und κ k = true then some (σ.1 2 a, σ) else some (-16, σ) := by
  obtain ⟨s0, s1, s2, s3, s4, s5⟩ := sv_un
  rcases lt6 hκ with rfl | rfl | rfl | rfl | rfl | rfl
  · rw [jt_s ha hk hκ (by omega), s0, jt_e (by omega)]
    unfold und
    by_cases e : 0 = k
    · subst e; rfl
    · rw [if_neg e, if_neg (by simp; omega)]
  · rw [jt_s ha hk hκ (by omega), s1, jt_s ha hk (by omega) (by omega), s0, jt_e (by omega)]
    unfold und
    by_cases e : 1 = k
    · subst e; rfl
    · by_cases e2 : 0 = k
      · subst e2; rfl
      · rw [if_neg e, if_neg e2, if_neg (by simp; omega)]
  · rw [jt_s ha hk hκ (by omega), s2, jt_s ha hk (by omega) (by omega), s0, jt_e (by omega)]
    unfold und
    by_cases e : 2 = k
    · subst e; rfl
    · by_cases e2 : 0 = k
      · subst e2; rfl
      · rw [if_neg e, if_neg e2, if_neg (by simp; omega)]
  · rw [jt_s ha hk hκ (by omega), s3, jt_s ha hk (by omega) (by omega), s1, jt_s ha hk (by omega) (by omega), s0, jt_e (by omega)]
    unfold und
    by_cases e : 3 = k
    · subst e; rfl
    · by_cases e1 : 1 = k
      · subst e1; rfl
      · by_cases e2 : 0 = k
        · subst e2; rfl
        · rw [if_neg e, if_neg e1, if_neg e2, if_neg (by simp; omega)]
  · rw [jt_s ha hk hκ (by omega), s4, jt_s ha hk (by omega) (by omega), s0, jt_e (by omega)]
    unfold und
    by_cases e : 4 = k
    · subst e; rfl
    · by_cases e2 : 0 = k
      · subst e2; rfl
      · rw [if_neg e, if_neg e2, if_neg (by simp; omega)]
  · rw [jt_s ha hk hκ (by omega), s5, jt_s ha hk (by omega) (by omega), s2, jt_s ha hk (by omega) (by omega), s0, jt_e (by omega)]
    unfold und
    by_cases e : 5 = k
    · subst e; rfl
    · by_cases e1 : 2 = k
      · subst e1; rfl
      · by_cases e2 : 0 = k
        · subst e2; rfl
        · rw [if_neg e, if_neg e1, if_neg e2, if_neg (by simp; omega)]
theorem mund {κ k : Nat} {σ : Sg} (hκ : κ < 6) (hk : k < 6) : m_isUnder_s (nI κ) (nI k) σ = some (if und κ k = true then 1 else 0, σ) := by
  rcases lt6 hκ with rfl | rfl | rfl | rfl | rfl | rfl <;> rcases lt6 hk with rfl | rfl | rfl | rfl | rfl | rfl <;> rfl
theorem i1k (k : Nat) : (1 : Int32) + nI k = nI (1 + k) := by rw [show (1 : Int32) = nI 1 from rfl, nI_add]
theorem op_taken {n q ver : Nat} {σ : Sg} (hn : n < 512) (h : VV n q ver σ) (a b : Int32) : ∃ r σ1 σ2, j_taken_0 a b σ = some (r, σ1) ∧ m_taken_117 a b σ1 = some (r, σ2) ∧ VI (n + 1) σ2 := by
  have hq := vq h
  have h1 := (v_118 h).2.1
  unfold j_taken_0 m_taken_117 m_taken_117_b64
  rcases in_out a (q := q) (by omega) with o | ⟨k, hk, rfl⟩
  · refine ⟨-1, rj 1 σ, rm 1 (rj 1 σ), ?_, ?_, fin_ref hn (by omega) (by omega) h (Kp_refl _) (Kp_refl _)⟩
    · rw [jq_out h1 o, bd_s, if_pos rfl, jr1, bd_s]
    · rw [mq_out hq (by rw [rj_118]; exact v0 h) o, bd_s, if_pos rfl, mr1, bd_s]
  · rcases in_out b (q := 6) (by decide) with o | ⟨c, hc, rfl⟩
    · refine ⟨-2, rj 2 σ, rm 2 (rj 2 σ), ?_, ?_, fin_ref hn (by omega) (by omega) h (Kp_refl _) (Kp_refl _)⟩
      · rw [jq_in hq h1 hk, bd_s, if_neg (by decide), jki_out o, bd_s, if_pos rfl, jr2, bd_s]
      · rw [mq_in hq (by rw [rj_118]; exact v0 h) hk, bd_s, if_neg (by decide), mki_out o, bd_s, if_pos rfl, mr2, bd_s]
    · obtain ⟨κ, hκ, q1, q2⟩ := (vMR h).2.2.1 k hk
      refine ⟨if und κ c = true then nI κ else -16, σ, σ, ?_, ?_, fin_kp hn h (Kp_refl _)⟩
      · rw [jq_in hq h1 hk, bd_s, if_neg (by decide), jki_in hc, bd_s, if_neg (by decide), inB_t (by omega) (by omega), gd_t, cl_n (by omega)]
        have q1' : σ.1 2 k = nI κ := q1
        rw [q1']
        refine (jt (σ := σ) (by omega) hc hκ 19996).trans ?_
        rw [q1']
        split <;> rfl
      · rw [mq_in hq (v0 h) hk, bd_s, if_neg (by decide), mki_in hc, bd_s, if_neg (by decide), i1k, inB_t (by omega) (by omega), gd_t, cl_n (by omega), q2, mund hκ hc, bd_s, gd_t, mr16, bd_s]
        split
        · rw [if_neg (by decide), q2]
        · rfl
/-! scales -/
theorem sc_in {n q ver k : Nat} {σ : Sg} (h : VV n q ver σ) (hk : k < q) : SC (σ.1 12 k) (σ.1 13 k) (σ.1 118 (49 + k)) (σ.1 118 (57 + k)) := (vMR h).2.2.2.2.1 k hk
theorem jhs {k : Nat} {σ : Sg} (hk : k < 8) : j_hasScale_1 (nI k) σ = some (if σ.1 12 k = 0 then 0 else 1, σ) := by
  unfold j_hasScale_1 j_hasScale_1_b14
  rw [inB_t hk (by omega), gd_t, cl_n (by omega)]
  split <;> rfl
theorem i49 (k : Nat) : (49 : Int32) + nI k = nI (49 + k) := by rw [show (49 : Int32) = nI 49 from rfl, nI_add]
theorem i57 (k : Nat) : (57 : Int32) + nI k = nI (57 + k) := by rw [show (57 : Int32) = nI 57 from rfl, nI_add]
theorem op_scaled {n q ver : Nat} {σ : Sg} (hn : n < 512) (h : VV n q ver σ) (a b : Int32) : ∃ r σ1 σ2, j_scaled_0 a b σ = some (r, σ1) ∧ m_scaled_117 a b σ1 = some (r, σ2) ∧ VI (n + 1) σ2 := by
  have hq := vq h
  have h1 := (v_118 h).2.1
  unfold j_scaled_0 m_scaled_117 m_scaled_117_b72
  rcases in_out a (q := q) (by omega) with o | ⟨k, hk, rfl⟩
  · refine ⟨-1, rj 1 σ, rm 1 (rj 1 σ), ?_, ?_, fin_ref hn (by omega) (by omega) h (Kp_refl _) (Kp_refl _)⟩
    · rw [jq_out h1 o, bd_s, if_pos rfl, jr1, bd_s]
    · rw [mq_out hq (by rw [rj_118]; exact v0 h) o, bd_s, if_pos rfl, mr1, bd_s]
  · rcases in_out b (q := 2) (by decide) with o | ⟨p, hp, rfl⟩
    · refine ⟨-2, rj 2 σ, rm 2 (rj 2 σ), ?_, ?_, fin_ref hn (by omega) (by omega) h (Kp_refl _) (Kp_refl _)⟩
      · rw [jq_in hq h1 hk, bd_s, if_neg (by decide), jpa_out o, bd_s, if_pos rfl, jr2, bd_s]
      · rw [mq_in hq (by rw [rj_118]; exact v0 h) hk, bd_s, if_neg (by decide), mpa_out o, bd_s, if_pos rfl, mr2, bd_s]
    · obtain ⟨e, hs⟩ := sc_in h hk
      by_cases h0 : σ.1 12 k = 0
      · refine ⟨-9, σ, σ, ?_, ?_, fin_kp hn h (Kp_refl _)⟩
        · rw [jq_in hq h1 hk, bd_s, if_neg (by decide), jpa_in hp, bd_s, if_neg (by decide), jhs (by omega), bd_s, if_pos h0, if_pos rfl]
        · rw [mq_in hq (v0 h) hk, bd_s, if_neg (by decide), mpa_in hp, bd_s, if_neg (by decide), i49, inB_t (by omega) (by omega), gd_t, cl_n (by omega), if_pos (e ▸ h0)]
      · rcases hs with hs | ⟨x, y, hx, hx9, hy, hy9, e1, e2, e3⟩
        · exact absurd hs h0
        · have ha : (σ.1 12 k).toInt64.toInt = (x : Int) := by rw [Int32.toInt_toInt64, e1, nI_toInt (by omega)]
          have hb : (σ.1 13 k).toInt64.toInt = (y : Int) := by rw [Int32.toInt_toInt64, e2, nI_toInt (by omega)]
          obtain ⟨r, r1, r2⟩ := part_eq ha hb (by omega) (by omega) hp σ σ
          refine ⟨r.toInt32, σ, σ, ?_, ?_, fin_kp hn h (Kp_refl _)⟩
          · rw [jq_in hq h1 hk, bd_s, if_neg (by decide), jpa_in hp, bd_s, if_neg (by decide), jhs (by omega), bd_s, if_neg h0, if_neg (by decide), inB_t (by omega) (by omega), gd_t, gd_t, cl_n (by omega), r1, bd_s]
          · rw [mq_in hq (v0 h) hk, bd_s, if_neg (by decide), mpa_in hp, bd_s, if_neg (by decide), i49, i57, inB_t (by omega) (by omega), inB_t (by omega) (by omega), gd_t, gd_t, gd_t, cl_n (by omega), cl_n (by omega), if_neg (fun w => h0 (e.trans w)), ← e, e3, ← e2, r2, bd_s]
def scn (σ : Sg) : Nat → Nat
  | 0 => 0
  | k + 1 => scn σ k + (if σ.1 118 (49 + k) = 0 then 0 else 2 ^ k)
theorem scn_lt (σ : Sg) : ∀ k, scn σ k < 2 ^ k
  | 0 => by show 0 < 1; omega
  | k + 1 => by
    have := scn_lt σ k
    have h2 : 2 ^ (k + 1) = 2 ^ k + 2 ^ k := by rw [Nat.pow_succ]; omega
    show scn σ k + _ < _
    split <;> omega
theorem jss {n q ver : Nat} {σ : Sg} (h : VV n q ver σ) : j_scaledSet_1 σ = some (nI (scn σ q), σ) := by
  have hq := vq h
  unfold j_scaledSet_1
  refine loopE (L := fun m p (_ : Unit) => j_scaledSet_1_L4 m (nI (scn σ p)) (nI p) σ) (N := q) (s := ()) (P := fun _ _ => True) (Q := fun r => r = some (nI (scn σ q), σ)) ?_ ?_ (fu_lt (by omega)) trivial
  · rintro m p _ hp _
    refine ⟨(), ?_, trivial⟩
    have hl := scn_lt σ p
    have hp7 := pw_le (show p ≤ 7 by omega)
    show j_scaledSet_1_H4 (j_scaledSet_1_L4 m) _ (nI p) σ = _
    unfold j_scaledSet_1_H4 j_scaledSet_1_b28
    rw [(vMR h).1, if_neg (nI_ge hp (by omega)), jhs (by omega), bd_s, (sc_in h hp).1, or_eq p (by omega) _ (by omega) hl, or0, nI_1]
    show _ = j_scaledSet_1_L4 m (nI (scn σ p + if σ.1 118 (49 + p) = 0 then 0 else 2 ^ p)) (nI (p + 1)) σ
    by_cases e : σ.1 118 (49 + p) = 0
    · rw [if_pos e, if_pos rfl, if_pos e]; rfl
    · rw [if_neg e, if_neg (by decide), if_neg e]
  · rintro m _ _
    show j_scaledSet_1_H4 (j_scaledSet_1_L4 m) _ (nI q) σ = _
    unfold j_scaledSet_1_H4
    rw [(vMR h).1, if_pos (nI_le (by omega) (by omega))]
theorem mss {n q ver : Nat} {σ : Sg} (h : VV n q ver σ) : m_scales_117 σ = some (nI (scn σ q), σ) := by
  have hq := vq h
  unfold m_scales_117
  refine loopE (L := fun m p (_ : Unit) => m_scales_117_L4 m (nI (scn σ p)) (nI p) σ) (N := q) (s := ()) (P := fun _ _ => True) (Q := fun r => r = some (nI (scn σ q), σ)) ?_ ?_ (fu_lt (by omega)) trivial
  · rintro m p _ hp _
    refine ⟨(), ?_, trivial⟩
    have hl := scn_lt σ p
    have hp7 := pw_le (show p ≤ 7 by omega)
    show m_scales_117_H4 (m_scales_117_L4 m) _ (nI p) σ = _
    unfold m_scales_117_H4 m_scales_117_b34
    rw [v0 h, if_neg (nI_ge hp (by omega)), i49, inB_t (by omega) (by omega), gd_t, cl_n (by omega), or_eq p (by omega) _ (by omega) hl, or0, nI_1]
    show _ = m_scales_117_L4 m (nI (scn σ p + if σ.1 118 (49 + p) = 0 then 0 else 2 ^ p)) (nI (p + 1)) σ
    obtain ⟨e, hs⟩ := sc_in h hp
    rcases hs with hs | ⟨x, y, hx, hx9, hy, hy9, e1, e2, e3⟩
    · rw [← e, hs, if_pos (by decide), if_pos rfl]; rfl
    · rw [← e, e1, if_neg (show ¬ nI x ≤ 0 from nI_ge (b := x) (a := 0) (by omega) (by omega)), if_neg (show ¬ nI x = 0 from fun w => by have := (nI_eq (b := 0) (by omega) (by omega)).mp w; omega)]
  · rintro m _ _
    show m_scales_117_H4 (m_scales_117_L4 m) _ (nI q) σ = _
    unfold m_scales_117_H4
    rw [v0 h, if_pos (nI_le (by omega) (by omega))]
theorem op_count {n q ver : Nat} {σ : Sg} (hn : n < 512) (h : VV n q ver σ) (a : Int32) : ∃ r σ1 σ2, j_count_0 a σ = some (r, σ1) ∧ m_count_117 a σ1 = some (r, σ2) ∧ VI (n + 1) σ2 := by
  have hq := vq h
  unfold j_count_0 j_count_0_b85 j_count_0_b87 m_count_117 m_count_117_b75 m_count_117_b109
  by_cases b0 : a = 0
  · exact ⟨nI q, σ, σ, by rw [if_pos b0, (vMR h).1], by rw [if_pos b0, v0 h], fin_kp hn h (Kp_refl _)⟩
  · by_cases b1 : a = 1
    · obtain ⟨c, _, e1, e2, _⟩ := h.2.2.2.2.2.1
      exact ⟨nI c, σ, σ, by rw [if_neg b0, if_pos b1, e1], by rw [if_neg b0, if_pos b1, e2], fin_kp hn h (Kp_refl _)⟩
    · by_cases b2 : a = 2
      · exact ⟨nI (scn σ q), σ, σ, by rw [if_neg b0, if_neg b1, if_pos b2, jss h, bd_s], by rw [if_neg b0, if_neg b1, if_pos b2, mss h, bd_s], fin_kp hn h (Kp_refl _)⟩
      · by_cases b3 : a = 3
        · obtain ⟨len, hlen, l1, l2⟩ := (vMR h).2.2.2.2.2
          refine ⟨σ.1 1 7, σ, σ, by rw [if_neg b0, if_neg b1, if_neg b2, if_pos b3], ?_, fin_kp hn h (Kp_refl _)⟩
          rw [if_neg b0, if_neg b1, if_neg b2, if_pos b3]
          rcases l2 with ⟨m1, m2⟩ | ⟨m1, m2, m3, _⟩
          · rw [if_pos m2, m1]
          · rw [if_neg (by rw [m2]; exact (show ¬ nI len = 0 from fun w => by have := (nI_eq (b := 0) (by omega) (by omega)).mp w; omega)), m3]
        · by_cases b4 : a = 4
          · obtain ⟨m, nx, hm, _, _, e1, e2, _⟩ := h.2.2.2.2.2.2.2.2.1
            exact ⟨nI m, σ, σ, by rw [if_neg b0, if_neg b1, if_neg b2, if_neg b3, if_pos b4, e1], by rw [if_neg b0, if_neg b1, if_neg b2, if_neg b3, if_pos b4, e2], fin_kp hn h (Kp_refl _)⟩
          · have l11 : (11 : Int64) = (nI 11).toInt64 := by decide
            have l16 : (16 : Int64) = (nI 16).toInt64 := by decide
            by_cases g : (11 : Int) ≤ a.toInt ∧ a.toInt ≤ 16
            · obtain ⟨u, hu1, hu, hb⟩ : ∃ u : Nat, 1 ≤ u ∧ u < 7 ∧ a = nI (10 + u) := ⟨(a.toInt - 10).toNat, by omega, by omega, of_t (by omega) (by omega)⟩
              have hs : nI (10 + u) - 10 = nI u := by rw [show (10 : Int32) = nI 10 from rfl, nI_sub (by omega)]; congr 1; omega
              refine ⟨σ.1 116 u, σ, σ, ?_, ?_, fin_kp hn h (Kp_refl _)⟩
              · rw [if_neg b0, if_neg b1, if_neg b2, if_neg b3, if_neg b4, if_neg (fun w => by have := (lt_l (b := 11) (by omega)).mp w; omega), if_neg (fun w => by have := (gt_l (b := 16) (by omega)).mp w; omega), hb, hs, inB_t (by omega) (by omega), gd_t, cl_n (by omega)]
              · rw [if_neg b0, if_neg b1, if_neg b2, if_neg b3, if_neg b4, l11, l16, isIn_in (a := 11) (b := 16) (by omega) (by omega) g, bd_s, if_neg (by decide), hb, hs, inB_t (by omega) (by omega), gd_t, cl_n (by omega), h.2.2.2.2.2.2.2.1 u hu1 (by omega)]
            · refine ⟨-9, σ, σ, ?_, ?_, fin_kp hn h (Kp_refl _)⟩
              · rw [if_neg b0, if_neg b1, if_neg b2, if_neg b3, if_neg b4]
                by_cases w : a < 11
                · rw [if_pos w]
                · rw [if_neg w, if_pos]
                  have w' : ¬ a.toInt < 11 := fun e => w ((lt_l (b := 11) (by omega)).mpr e)
                  exact (gt_l (b := 16) (by omega)).mpr (by omega)
              · rw [if_neg b0, if_neg b1, if_neg b2, if_neg b3, if_neg b4, l11, l16, isIn_out (a := 11) (b := 16) (by omega) (by omega) g, bd_s, if_pos rfl]
