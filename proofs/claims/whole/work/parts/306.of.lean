/-! ===== PURE: twin, of, rank ===== -/
theorem lt_l {a : Int32} {b : Nat} (hb : b < 2 ^ 31) : a < nI b ↔ a.toInt < (b : Int) := by rw [Int32.lt_iff_toInt_lt, nI_toInt hb]
theorem ge_l {a : Int32} {b : Nat} (hb : b < 2 ^ 31) : nI b ≤ a ↔ (b : Int) ≤ a.toInt := by rw [Int32.le_iff_toInt_le, nI_toInt hb]
theorem le_l {a : Int32} {b : Nat} (hb : b < 2 ^ 31) : a ≤ nI b ↔ a.toInt ≤ (b : Int) := by rw [Int32.le_iff_toInt_le, nI_toInt hb]
theorem gt_l {a : Int32} {b : Nat} (hb : b < 2 ^ 31) : nI b < a ↔ (b : Int) < a.toInt := by rw [Int32.lt_iff_toInt_lt, nI_toInt hb]
theorem eq_l {a : Int32} {b : Nat} (hb : b < 2 ^ 31) : a = nI b ↔ a.toInt = (b : Int) := by
  constructor
  · rintro rfl; exact nI_toInt hb
  · intro h; exact Int32.toInt_inj.mp (h.trans (nI_toInt hb).symm)
theorem of_t {a : Int32} {t : Nat} (ht : a.toInt = (t : Int)) (hb : t < 2 ^ 31) : a = nI t := (eq_l hb).mpr ht
theorem op_twin {n q ver : Nat} {σ : Sg} (hn : n < 512) (h : VV n q ver σ) (a : Int32) : ∃ r σ1 σ2, j_twin_0 a σ = some (r, σ1) ∧ m_twin_117 a σ1 = some (r, σ2) ∧ VI (n + 1) σ2 := by
  have hq := vq h
  have h1 := (v_118 h).2.1
  unfold j_twin_0 m_twin_117 m_twin_117_b21
  rcases in_out a (q := q) (by omega) with o | ⟨k, hk, rfl⟩
  · refine ⟨-1, rj 1 σ, rm 1 (rj 1 σ), ?_, ?_, fin_ref hn (by omega) (by omega) h (Kp_refl _) (Kp_refl _)⟩
    · rw [jq_out h1 o, bd_s, if_pos rfl, jr1, bd_s]
    · rw [mq_out hq (by rw [rj_118]; exact v0 h) o, bd_s, if_pos rfl, mr1, bd_s]
  · refine ⟨tw σ q k, σ, σ, ?_, ?_, fin_kp hn h (Kp_refl _)⟩
    · rw [jq_in hq h1 hk, bd_s, if_neg (by decide)]
      refine loopQ (fun n p (_ : Unit) => j_twin_0_L16 n (nI k) (nI p) σ) q (fun p _ => ff (twB σ k) q 0 = ff (twB σ k) (q - p) p) (fun r => r = some (tw σ q k, σ)) ?_ ?_ q fu 0 () (by omega) (fu_lt (by omega)) rfl
      · rintro n p _ hp g
        obtain ⟨d, hd⟩ : ∃ d, q - p = d + 1 := ⟨q - p - 1, by omega⟩
        rw [hd] at g
        have st : j_twin_0_L16 (n + 1) (nI k) (nI p) σ = if twB σ k p = true then some (nI p, σ) else j_twin_0_L16 n (nI k) (nI (p + 1)) σ := by
          show j_twin_0_H16 (j_twin_0_L16 n) (nI k) (nI p) σ = _
          unfold j_twin_0_H16 j_twin_0_b56 twB
          rw [(vSP h).1, if_neg (nI_ge hp (by omega)), nI_1]
          by_cases e : p = k
          · subst e; rw [if_pos rfl, if_neg (by simp)]
          · rw [if_neg (fun w => e ((nI_eq (by omega) (by omega)).mp w)), inB_t (by omega) (by omega), inB_t (by omega) (by omega), gd_t, gd_t, cl_n (by omega), cl_n (by omega), (vSP h).2.2.1 p hp, (vSP h).2.2.1 k hk]
            have hl := lk_ky (vMR h) hp hk
            by_cases g2 : ky (dm σ p) = ky (dm σ k)
            · rw [if_pos (cmp_eq.mpr g2), if_pos (by simp [e, hl.mp g2])]
            · rw [if_neg (fun w => g2 (cmp_eq.mp w)), if_neg (by
                intro w
                simp at w
                exact g2 (hl.mpr w.2))]
        rw [st]
        by_cases e : twB σ k p = true
        · rw [ff_t e] at g
          rw [if_pos e]
          right
          unfold tw; rw [g]
        · rw [ff_f e] at g
          rw [if_neg e]
          exact Or.inl ⟨(), rfl, by rw [g, show q - (p + 1) = d by omega]⟩
      · rintro n _ g
        rw [show q - q = 0 by omega] at g
        show j_twin_0_H16 (j_twin_0_L16 n) (nI k) (nI q) σ = _
        unfold j_twin_0_H16 tw
        rw [(vSP h).1, if_pos (nI_le (by omega) (by omega)), g]; rfl
    · rw [mq_in hq (v0 h) hk, bd_s, if_neg (by decide), mtwin hq (v0 h) hk, bd_s]
/-- is a quantity PURE -/
def pB (σ : Sg) (k : Nat) : Bool := decide (dm σ k 0 = 0) && decide (dm σ k 1 = 0) && decide (dm σ k 2 = 0) && decide (dm σ k 3 = 0) && decide (dm σ k 4 = 0)
theorem pB_iff {σ : Sg} {k : Nat} : pB σ k = true ↔ ∀ u, u < 5 → dm σ k u = 0 := by
  unfold pB
  simp only [Bool.and_eq_true, decide_eq_true_eq]
  constructor
  · rintro ⟨⟨⟨⟨h0, h1⟩, h2⟩, h3⟩, h4⟩ u hu
    rcases lt5 hu with rfl | rfl | rfl | rfl | rfl <;> assumption
  · intro h
    exact ⟨⟨⟨⟨h 0 (by omega), h 1 (by omega)⟩, h 2 (by omega)⟩, h 3 (by omega)⟩, h 4 (by omega)⟩
theorem mpure {σ : Sg} {a : Nat} (ha : a < 8) : m_isPure_117 (nI a) σ = some (if pB σ a = true then 1 else 0, σ) := by
  have hc : cj (fun u => decide (dm σ a u = 0)) 5 = if pB σ a = true then 1 else 0 := cj_ite (by rw [pB_iff]; simp only [decide_eq_true_eq])
  rw [← hc]
  unfold m_isPure_117
  refine loopE (L := fun k u s => m_isPure_117_L4 k (nI a) s (nI u) σ) (N := 5) (P := fun u s => s = cj (fun u => decide (dm σ a u = 0)) u) (Q := fun r => r = some (cj (fun u => decide (dm σ a u = 0)) 5, σ)) ?_ ?_ (by decide) rfl
  · rintro k u s hu rfl
    refine ⟨_, ?_, rfl⟩
    show m_isPure_117_H4 (m_isPure_117_L4 k) _ _ (nI u) σ = _
    unfold m_isPure_117_H4 m_isPure_117_b24
    rw [if_neg (show ¬ (5 : Int32) ≤ nI u from nI_ge (b := 5) hu (by decide)), mpw ha hu, bd_s, nI_1]
    show _ = m_isPure_117_L4 k (nI a) (_ &&& (if decide (dm σ a u = 0) = true then (1 : Int32) else 0)) (nI (u + 1)) σ
    by_cases g : dm σ a u = 0
    · rw [if_pos g, if_pos (by simpa using g)]
    · rw [if_neg g, if_neg (by simpa using g)]
  · rintro k s rfl
    show m_isPure_117_H4 (m_isPure_117_L4 k) _ _ (nI 5) σ = _
    unfold m_isPure_117_H4
    rw [if_pos (show (5 : Int32) ≤ nI 5 by decide), cj_nb, gd_t]
theorem jpure {n q ver k : Nat} {σ : Sg} (h : VV n q ver σ) (hk : k < q) : j_isPure_x (52 + 1 + k) σ = some (if pB σ k = true then 1 else 0, σ) := by
  have hq := vq h
  unfold j_isPure_x
  rw [show ckB (52 + 1 + k) = true by unfold ckB; rw [(ckT_pow k (by omega)).1]; rfl, (ckT_pow k (by omega)).2, gd_t]
  refine loopQ (fun n u (_ : Unit) => j_isPure_x_L7 n (52 + 1 + k) (nI 5) (nI u) σ) 5 (fun u _ => ∀ j, j < u → dm σ k j = 0) (fun r => r = some (if pB σ k = true then 1 else 0, σ)) ?_ ?_ 5 fu 0 () (by omega) (by decide) (fun j h => absurd h (Nat.not_lt_zero _))
  · rintro n u _ hu g
    have st : j_isPure_x_L7 (n + 1) (52 + 1 + k) (nI 5) (nI u) σ = if dm σ k u = 0 then j_isPure_x_L7 n (52 + 1 + k) (nI 5) (nI (u + 1)) σ else some (0, σ) := by
      show j_isPure_x_H7 (j_isPure_x_L7 n) (52 + 1 + k) (nI 5) (nI u) σ = _
      unfold j_isPure_x_H7
      rw [if_neg (nI_ge hu (by decide)), ar_pow (by omega) hu, gd_t, cl_n (by omega), (vSP h).2.1 k u hk hu, nI_1]
    rw [st]
    by_cases e : dm σ k u = 0
    · rw [if_pos e]
      refine Or.inl ⟨(), rfl, fun j hj => ?_⟩
      rcases Nat.lt_or_eq_of_le (Nat.le_of_lt_succ hj) with w | w
      · exact g j w
      · rw [w]; exact e
    · rw [if_neg e, if_neg (fun w => e (pB_iff.mp w u hu))]
      exact Or.inr rfl
  · rintro n _ g
    show j_isPure_x_H7 (j_isPure_x_L7 n) (52 + 1 + k) (nI 5) (nI 5) σ = _
    unfold j_isPure_x_H7
    rw [if_pos (show nI 5 ≤ nI 5 by decide), if_pos (pB_iff.mpr g)]
theorem isIn_in {x : Int32} {a b : Nat} {σ : Sg} (ha : a < 2 ^ 31) (hb : b < 2 ^ 31) (h : (a : Int) ≤ x.toInt ∧ x.toInt ≤ b) : m_isIn_s x.toInt64 (nI a).toInt64 (nI b).toInt64 σ = some (1, σ) := by
  rw [isInI, if_pos ⟨(ge_l ha).mpr h.1, (le_l hb).mpr h.2⟩]
theorem isIn_out {x : Int32} {a b : Nat} {σ : Sg} (ha : a < 2 ^ 31) (hb : b < 2 ^ 31) (h : ¬ ((a : Int) ≤ x.toInt ∧ x.toInt ≤ b)) : m_isIn_s x.toInt64 (nI a).toInt64 (nI b).toInt64 σ = some (0, σ) := by
  rw [isInI, if_neg (fun w => h ⟨(ge_l ha).mp w.1, (le_l hb).mp w.2⟩)]
theorem op_of {n q ver : Nat} {σ : Sg} (hn : n < 512) (h : VV n q ver σ) (a b : Int32) : ∃ r σ1 σ2, j_of_0 a b σ = some (r, σ1) ∧ m_of_117 a b σ1 = some (r, σ2) ∧ VI (n + 1) σ2 := by
  have hq := vq h
  have h1 := (v_118 h).2.1
  unfold j_of_0 m_of_117 j_of_0_b70 m_of_117_b48 m_of_117_b67 m_of_117_b130
  rcases in_out a (q := q) (by omega) with o | ⟨k, hk, rfl⟩
  · refine ⟨1000000000 - (-1), rj 1 σ, rm 1 (rj 1 σ), ?_, ?_, fin_ref hn (by omega) (by omega) h (Kp_refl _) (Kp_refl _)⟩
    · rw [jq_out h1 o, bd_s, if_pos rfl, jrf1, bd_s]
    · rw [mq_out hq (by rw [rj_118]; exact v0 h) o, bd_s, if_pos rfl, mrf1, bd_s]
  · have i2 : (1 : Int32) + nI k = nI (1 + k) := by rw [show (1 : Int32) = nI 1 from rfl, nI_add]
    have jb : ∀ {α : Type} (X : Int32 → Sg → Option α), bd (j_isQuantity_0 (nI k) σ) X = X 1 σ := by intro α X; rw [jq_in hq h1 hk, bd_s]
    have mb : ∀ {α : Type} (X : Int32 → Sg → Option α), bd (m_isOne_117 (nI k) σ) X = X 1 σ := by intro α X; rw [mq_in hq (v0 h) hk, bd_s]
    by_cases b0 : b = 0
    · obtain ⟨κ, hκ, q1, q2⟩ := (vMR h).2.2.1 k hk
      refine ⟨nI κ, σ, σ, ?_, ?_, fin_kp hn h (Kp_refl _)⟩
      · rw [jb, if_neg (by decide), if_pos b0, inB_t (by omega) (by omega), gd_t, cl_n (by omega)]
        exact congrArg (fun x => some (x, σ)) q1
      · rw [mb, if_neg (by decide), if_pos b0, i2, inB_t (by omega) (by omega), gd_t, cl_n (by omega), q2]
    · by_cases b1 : b = 1
      · obtain ⟨σ2, w1, w2⟩ := mfirm (v0 h) hq (vA h)
        have hP := PV_lt σ q
        have hL := LZ_lt σ q
        have h256 := pw_256 hq
        refine ⟨if (LZ σ q).testBit k = true then 1 else 0, σ, σ2, ?_, ?_, fin_kp hn h (Kp_S w2 (by decide))⟩
        · rw [jb, if_neg (by decide), if_neg b0, if_pos b1, jloose_v h, bd_s, j_bit_eq (by omega) (by omega), bd_s]
        · rw [mb, if_neg (by decide), if_neg b0, if_pos b1, w1, bd_s, m_has_eq (by omega) (by omega), bd_s]
          have := LZ_bit (σ := σ) (q := q) (x := k)
          simp only [hk, decide_true, Bool.true_and] at this
          rw [this]
          cases (PV σ q).testBit k <;> rfl
      · by_cases b2 : b = 2
        · refine ⟨if pB σ k = true then 1 else 0, σ, σ, ?_, ?_, fin_kp hn h (Kp_refl _)⟩
          · rw [jb, if_neg (by decide), if_neg b0, if_neg b1, if_pos b2, inB_t (by omega) (by omega), gd_t, cl_n (by omega), jpure h hk, bd_s]
            split <;> rfl
          · rw [mb, if_neg (by decide), if_neg b0, if_neg b1, if_pos b2, mpure (by omega), bd_s]
            split <;> rfl
        · have hr := I_rng b
          have l10 : (10 : Int64) = (nI 10).toInt64 := by decide
          have l14 : (14 : Int64) = (nI 14).toInt64 := by decide
          have l20 : (20 : Int64) = (nI 20).toInt64 := by decide
          have l24 : (24 : Int64) = (nI 24).toInt64 := by decide
          by_cases g1 : (10 : Int) ≤ b.toInt ∧ b.toInt ≤ 14
          · obtain ⟨u, hu, hb⟩ : ∃ u : Nat, u < 5 ∧ b = nI (10 + u) := ⟨(b.toInt - 10).toNat, by omega, of_t (by omega) (by omega)⟩
            have hs : nI (10 + u) - 10 = nI u := by rw [show (10 : Int32) = nI 10 from rfl, nI_sub (by omega)]; congr 1; omega
            refine ⟨σ.1 118 (9 + 5 * k + u), σ, σ, ?_, ?_, fin_kp hn h (Kp_refl _)⟩
            · rw [jb, if_neg (by decide), if_neg b0, if_neg b1, if_neg b2, if_neg (fun w => by have := (lt_l (b := 10) (by omega)).mp w; omega), hb, hs, jun_in hu, bd_s, if_neg (by decide), inB_t (by omega) (by omega), gd_t, cl_n (by omega), ar_told (by omega) hu, gd_t, cl_n (by omega)]
              exact congrArg (fun x => some (x, σ)) ((vMR h).2.2.2.1 k u hk hu).1
            · rw [mb, if_neg (by decide), if_neg b0, if_neg b1, if_neg b2, l10, l14, isIn_in (a := 10) (b := 14) (by omega) (by omega) g1, bd_s, if_neg (by decide), hb]
              have hx : (9 + 5 * nI k + nI (10 + u)) - 10 = nI (9 + 5 * k + u) := by
                rw [show (5 : Int32) = nI 5 from rfl, nI_mul, show (9 : Int32) = nI 9 from rfl, nI_add, nI_add, show (10 : Int32) = nI 10 from rfl, nI_sub (by omega)]
                congr 1; omega
              rw [hx, inB_t (by omega) (by omega), gd_t, cl_n (by omega)]
          · by_cases g2 : (20 : Int) ≤ b.toInt ∧ b.toInt ≤ 24
            · obtain ⟨u, hu, hb⟩ : ∃ u : Nat, u < 5 ∧ b = nI (20 + u) := ⟨(b.toInt - 20).toNat, by omega, of_t (by omega) (by omega)⟩
              have hs : nI (20 + u) - 20 = nI u := by rw [show (20 : Int32) = nI 20 from rfl, nI_sub (by omega)]; congr 1; omega
              have hs1 : nI (20 + u) - 10 = nI (10 + u) := by rw [show (10 : Int32) = nI 10 from rfl, nI_sub (by omega)]; congr 1; omega
              refine ⟨dm σ k u, σ, σ, ?_, ?_, fin_kp hn h (Kp_refl _)⟩
              · rw [jb, if_neg (by decide), if_neg b0, if_neg b1, if_neg b2, if_neg (fun w => by have := (lt_l (b := 10) (by omega)).mp w; omega), hb, hs1, jun_out (Or.inr (nI_le (by omega) (by omega))), bd_s, if_pos rfl]
                unfold j_of_0_b102
                rw [if_neg (fun w => by have := (lt_l (b := 20) (by omega)).mp w; rw [nI_toInt (by omega)] at this; omega), hs, jun_in hu, bd_s, if_neg (by decide), inB_t (by omega) (by omega), gd_t, cl_n (by omega), ar_pow (by omega) hu, gd_t, cl_n (by omega), (vSP h).2.1 k u hk hu]
              · rw [mb, if_neg (by decide), if_neg b0, if_neg b1, if_neg b2, l10, l14, isIn_out (a := 10) (b := 14) (by omega) (by omega) g1, bd_s, if_pos rfl, l20, l24, isIn_in (a := 20) (b := 24) (by omega) (by omega) g2, bd_s, if_neg (by decide), hb, hs, mpw (by omega) hu, bd_s]
            · refine ⟨1000000000 - (-2), rj 2 σ, rm 2 (rj 2 σ), ?_, ?_, fin_ref hn (by omega) (by omega) h (Kp_refl _) (Kp_refl _)⟩
              · have b102 : j_of_0_b102 (nI k) b σ = some (1000000000 - (-2), rj 2 σ) := by
                  unfold j_of_0_b102 j_of_0_b133
                  by_cases w : b < 20
                  · rw [if_pos w, jrf2, bd_s]
                  · have w' : ¬ b.toInt < 20 := fun e => w ((lt_l (b := 20) (by omega)).mpr e)
                    have e20 : (b - 20).toInt = b.toInt - 20 := by
                      rw [Int32.toInt_sub, show (20 : Int32).toInt = 20 by decide]; exact bm32 (by omega) (by omega)
                    rw [if_neg w, jun_out (out_of (by omega) (by rw [e20]; omega)), bd_s, if_pos rfl, jrf2, bd_s]
                rw [jb, if_neg (by decide), if_neg b0, if_neg b1, if_neg b2]
                by_cases w : b < 10
                · rw [if_pos w, b102]
                · have w' : ¬ b.toInt < 10 := fun e => w ((lt_l (b := 10) (by omega)).mpr e)
                  have e10 : (b - 10).toInt = b.toInt - 10 := by
                    rw [Int32.toInt_sub, show (10 : Int32).toInt = 10 by decide]; exact bm32 (by omega) (by omega)
                  rw [if_neg w, jun_out (out_of (by omega) (by rw [e10]; omega)), bd_s, if_pos rfl, b102]
              · rw [mq_in hq (by rw [rj_118]; exact v0 h) hk, bd_s, if_neg (by decide), if_neg b0, if_neg b1, if_neg b2, l10, l14, isIn_out (a := 10) (b := 14) (by omega) (by omega) g1, bd_s, if_pos rfl, l20, l24, isIn_out (a := 20) (b := 24) (by omega) (by omega) g2, bd_s, if_pos rfl, mrf2, bd_s]
