/-! ===== PURE: sets, odds, least ===== -/
theorem rl_cg {s s' : ET} {q x p : Nat} (h1 : ∀ r j, r < 5 → j < q → s'.1 r j = s.1 r j) (h2 : s'.2 = s.2) (hE : EQ q s) (hx : x < q) (hp : p < q) : rl (tz s') x p = rl (tz s) x p := by
  obtain ⟨_, _, _, e4, e5, e6, _⟩ := hE
  have hd : rd (tz s') x = rd (tz s) x := by
    unfold rd
    show sgd s'.2.2.2.2.toInt (gch s'.2.2.2.2.toInt (fun r => (s'.1 r x).toInt) s'.2.1) = sgd s.2.2.2.2.toInt (gch s.2.2.2.2.toInt (fun r => (s.1 r x).toInt) s.2.1)
    rw [h2]
    congr 1
    exact gch_cg _ (fun i hi => by rw [h1 i x (by omega) hx])
  by_cases e : p = x
  · subst e
    rw [rl_x, rl_x, hd]
    show s'.2.2.2.2.toInt.tdiv _ = s.2.2.2.2.toInt.tdiv _
    rw [h2]
  · by_cases hb : s.2.2.1.testBit p = true
    · have hb' : (tz s').2.2.1.testBit p = true := by
        show s'.2.2.1.testBit p = true
        rw [h2]; exact hb
      rw [rl_p e hb', rl_p (t := tz s) e hb, hd]
      have hr : s.2.2.2.1 p < 5 := by
        rw [e6 p hp hb]
        have := cnt_lt hb hp
        omega
      show (-(s'.1 (s'.2.2.2.1 p) x).toInt).tdiv _ = (-(s.1 (s.2.2.2.1 p) x).toInt).tdiv _
      rw [h2, h1 _ x hr hx]
    · have hb' : ¬ (tz s').2.2.1.testBit p = true := by
        show ¬ s'.2.2.1.testBit p = true
        rw [h2]; exact hb
      rw [rl_0 e hb', rl_0 (t := tz s) e hb]
theorem mA_cg {q : Nat} {ρ σ : Sg} (hd : ∀ k u, k < q → u < 5 → dm ρ k u = dm σ k u) : ∀ r c, r < 5 → c < q → mA ρ r c = mA σ r c := fun r c hr hc => by
  show (dm ρ c r).toInt64 = (dm σ c r).toInt64
  rw [hd c r hc hr]
theorem sza_cg {q S x : Nat} {ρ σ : Sg} (hd : ∀ k u, k < q → u < 5 → dm ρ k u = dm σ k u) (hE : EQ q (ets (mA σ) S q)) (hx : x < q) : ∀ p, p ≤ q → sza ρ q S x p = sza σ q S x p
  | 0, _ => rfl
  | p + 1, hp => by
    obtain ⟨e1, e2⟩ := ets_cgA (S := S) (mA_cg hd) q (Nat.le_refl _)
    show sza ρ q S x p + ((RS ρ q S x p).natAbs : Int) = sza σ q S x p + ((RS σ q S x p).natAbs : Int)
    rw [sza_cg hd hE hx p (by omega), show RS ρ q S x p = RS σ q S x p from rl_cg e1 e2 hE hx (by omega)]
theorem szt_cg {q S : Nat} {ρ σ : Sg} (hd : ∀ k u, k < q → u < 5 → dm ρ k u = dm σ k u) (hE : EQ q (ets (mA σ) S q)) : ∀ x, x ≤ q → szt ρ q S x = szt σ q S x
  | 0, _ => rfl
  | x + 1, hx => by
    show szt ρ q S x + (if S.testBit x = true then 0 else sza ρ q S x q) = szt σ q S x + (if S.testBit x = true then 0 else sza σ q S x q)
    rw [szt_cg hd hE x (by omega), sza_cg hd hE (by omega) q (Nat.le_refl _)]
theorem lkf_cg {q : Nat} {ρ σ : Sg} (hd : ∀ k u, k < q → u < 5 → dm ρ k u = dm σ k u) (hE : ∀ S, EQ q (ets (mA σ) S q)) : ∀ k, lkf ρ q k = lkf σ q k
  | 0 => rfl
  | S + 1 => by
    have hrk : RK ρ q = RK σ q := by
      unfold RK
      rw [(ets_cgA (S := 2 ^ q - 1) (mA_cg hd) q (Nat.le_refl _)).2]
    have hch : chB ρ q S = chB σ q S := by
      unfold chB
      rw [hrk, (ets_cgA (S := S) (mA_cg hd) q (Nat.le_refl _)).2]
    unfold lkf
    rw [lkf_cg hd hE S, hch, hrk, szt_cg hd (hE S) q (Nat.le_refl _)]
theorem LKQ_cg {q : Nat} {ρ σ τ : Sg} (hd : ∀ k u, k < q → u < 5 → dm ρ k u = dm σ k u) (hE : ∀ S, EQ q (ets (mA σ) S q)) (h : LKQ ρ q τ) : LKQ σ q τ := by
  unfold LKQ at *
  rw [lkf_cg hd hE] at h; exact h
theorem lsl_cg {g g' : Int → Option (List Int)} (h : ∀ x, g x = g' x) : lsl g = lsl g' := by
  rw [show g = g' from funext h]
theorem lsr_cg {q : Nat} {ρ σ : Sg} (hd : ∀ k u, k < q → u < 5 → dm ρ k u = dm σ k u) : ∀ d left (v v' : Nat → Int), d ≤ q → (∀ u, u < 5 → v u = v' u) → lsr ρ q d left v = lsr σ q d left v'
  | 0, left, v, v', _, h => by
    unfold lsr zr5
    rw [h 0 (by omega), h 1 (by omega), h 2 (by omega), h 3 (by omega), h 4 (by omega)]
  | d + 1, left, v, v', hq, h => by
    unfold lsr
    rw [lsl_cg (fun x => lsr_cg hd d (left - x.natAbs) (fun u => v u + x * dZ ρ (q - (d + 1)) u) (fun u => v' u + x * dZ σ (q - (d + 1)) u) (by omega) (fun u hu => by
      unfold dZ
      rw [h u hu, hd (q - (d + 1)) u (by omega) hu]))]
theorem lsT_cg {q : Nat} {ρ σ : Sg} (hd : ∀ k u, k < q → u < 5 → dm ρ k u = dm σ k u) : ∀ e n, lsT ρ q e n = lsT σ q e n
  | 0, _ => rfl
  | e + 1, n => by
    unfold lsT
    rw [lsr_cg hd q n (fun _ => 0) (fun _ => 0) (Nat.le_refl _) (fun _ _ => rfl), lsT_cg hd e (n + 1)]
theorem LSP_cg {q : Nat} {ρ σ τ : Sg} (hd : ∀ k u, k < q → u < 5 → dm ρ k u = dm σ k u) (h : LSP ρ q τ) : LSP σ q τ := by
  unfold LSP at *
  rw [lsT_cg hd] at h; exact h
/-- the invariant, with all sets noted anew -/
theorem VV_70 {n q ver : Nat} {σ τ : Sg} (h : VV n q ver σ) (f : FR LKS σ τ) (hc : CCh q ver τ) : VV n q ver τ := by
  obtain ⟨a1, a2, a3, a4, a5, a6, a7, a8, a9, a10, a11, a12, a13⟩ := h
  have e : ∀ c, kp c → c ≠ 70 → τ.1 c = σ.1 c := fun c hc h7 => (Kp70 f hc h7).1
  have e2 : ∀ c, kp c → c ≠ 70 → τ.2 c = σ.2 c := fun c hc h7 => (Kp70 f hc h7).2
  have e' : ∀ c, c < 70 → τ.1 c = σ.1 c := fun c hc => e c (by unfold kp; omega) (by omega)
  have e118 := e 118 (by unfold kp; omega) (by omega)
  have e117 : τ.1 117 = σ.1 117 := FR_i f (by decide)
  exact ⟨a1, a2, a3, MR_fr a3 a4 e118 (fun c _ _ => e' c (by omega)), IM_fr a5 (by rw [e' 0 (by omega)]) (fun c _ _ => e' c (by omega)) (e 119 (by unfold kp; omega) (by omega)) (by rw [e117]), LR_fr a6 (by rw [e' 0 (by omega)]) (e 107 (by unfold kp; omega) (by omega)) (e 121 (by unfold kp; omega) (by omega)) (by rw [e117]), LI_fr a7 (fun c _ _ => e c (by unfold kp; omega) (by omega)) (e 126 (by unfold kp; omega) (by omega)) (e 127 (by unfold kp; omega) (by omega)), RF_fr a8 (e 116 (by unfold kp; omega) (by omega)) (e 120 (by unfold kp; omega) (by omega)), HR_fr a9 (fun c _ _ => e' c (by omega)) (e 122 (by unfold kp; omega) (by omega)) (by rw [e117]), SP_fr a3 a10 e118 (fun c _ _ => ⟨e' c (by omega), e2 c (by unfold kp; omega) (by omega)⟩), by rw [e' 51 (by omega)]; exact a11, hc, CSe_fr a13 (e 80 (by unfold kp; omega) (by omega)) (e 81 (by unfold kp; omega) (by omega)) (e 104 (by unfold kp; omega) (by omega)) e118⟩
theorem kp_8081 {c : Nat} (hc : kp c) (h0 : c ≠ 80) (h1 : c ≠ 81) : ([80, 81] : List Nat).contains c = false := by simp [h0, h1]
theorem VV_80 {n q ver : Nat} {σ τ : Sg} (h : VV n q ver σ) (f : FR [80, 81] σ τ) (hc : CSe q ver τ) : VV n q ver τ := by
  obtain ⟨a1, a2, a3, a4, a5, a6, a7, a8, a9, a10, a11, a12, a13⟩ := h
  have e : ∀ c, kp c → c ≠ 80 → c ≠ 81 → τ.1 c = σ.1 c := fun c hc h0 h1 => FR_i f (kp_8081 hc h0 h1)
  have e2 : ∀ c, kp c → c ≠ 80 → c ≠ 81 → τ.2 c = σ.2 c := fun c hc h0 h1 => FR_l f (kp_8081 hc h0 h1)
  have e' : ∀ c, c ≤ 70 → τ.1 c = σ.1 c := fun c hc => e c (by unfold kp; omega) (by omega) (by omega)
  have e118 := e 118 (by unfold kp; omega) (by omega) (by omega)
  have e117 : τ.1 117 = σ.1 117 := FR_i f (by decide)
  exact ⟨a1, a2, a3, MR_fr a3 a4 e118 (fun c _ _ => e' c (by omega)), IM_fr a5 (by rw [e' 0 (by omega)]) (fun c _ _ => e' c (by omega)) (e 119 (by unfold kp; omega) (by omega) (by omega)) (by rw [e117]), LR_fr a6 (by rw [e' 0 (by omega)]) (e 107 (by unfold kp; omega) (by omega) (by omega)) (e 121 (by unfold kp; omega) (by omega) (by omega)) (by rw [e117]), LI_fr a7 (fun c _ _ => e c (by unfold kp; omega) (by omega) (by omega)) (e 126 (by unfold kp; omega) (by omega) (by omega)) (e 127 (by unfold kp; omega) (by omega) (by omega)), RF_fr a8 (e 116 (by unfold kp; omega) (by omega) (by omega)) (e 120 (by unfold kp; omega) (by omega) (by omega)), HR_fr a9 (fun c _ _ => e' c (by omega)) (e 122 (by unfold kp; omega) (by omega) (by omega)) (by rw [e117]), SP_fr a3 a10 e118 (fun c _ _ => ⟨e' c (by omega), e2 c (by unfold kp; omega) (by omega) (by omega)⟩), by rw [e' 51 (by omega)]; exact a11, CCh_fr a12 (e' 70 (by omega)) e118, hc⟩
theorem vver {n q ver : Nat} {σ : Sg} (h : VV n q ver σ) : σ.1 51 1 = nI ver := h.2.2.2.2.2.2.2.2.2.2.1
/-- all sets looked at -/
theorem jlook {n q ver : Nat} {σ : Sg} (h : VV n q ver σ) : ∃ τ, j_lookAtAll_70 σ = some ((), τ) ∧ FR LKS σ τ ∧ LKQ σ q τ ∧ VV n q ver τ := by
  have hv1 : n ≤ 512 := h.1
  have hv2 : ver ≤ n := h.2.1
  have hcc : CCh q ver σ := h.2.2.2.2.2.2.2.2.2.2.2.1
  have hd : ∀ (k u : Nat), k < q → u < 5 → dm σ k u = dm σ k u := fun _ _ _ _ => rfl
  unfold j_lookAtAll_70
  rw [vver h]
  by_cases g : σ.1 70 3 = nI ver
  · refine ⟨σ, by rw [if_pos g], FR_refl _ _, ?_, h⟩
    rcases hcc with c | ⟨w, c1, c2, c3⟩
    · rw [c] at g
      have := (eq_l (a := -1) (b := ver) (by omega)).mp g
      rw [show (-1 : Int32).toInt = -1 by decide] at this; omega
    · rw [c2] at g
      obtain ⟨ρ, d, l⟩ := c3 ((nI_eq (by omega) (by omega)).mp g)
      exact LKQ_cg d (vEQ h) l
  · rw [if_neg g]
    generalize hτ0 : si (si (si σ 70 3 (nI ver)) 70 4 0) 70 5 0 = τ0
    have f0 : FR LKS σ τ0 := by rw [← hτ0]; exact FR_si (FR_si (FR_si (FR_refl _ _) (by decide)) (by decide)) (by decide)
    have e3 : τ0.1 70 3 = nI ver := by rw [← hτ0, si_j (by omega), si_j (by omega), si_e]
    have e4 : τ0.1 70 4 = 0 := by rw [← hτ0, si_j (by omega), si_e]
    have e5 : τ0.1 70 5 = 0 := by rw [← hτ0, si_e]
    have h8 : τ0.1 118 = σ.1 118 := FR_i f0 (by decide)
    obtain ⟨τ, w1, w2, w3, w4⟩ := jall (q := q) (V70_lk (v7 h) f0) e4 e5
    have f := FR_trans f0 w2
    have hk : LKQ σ q τ := by
      unfold LKP at w4
      rw [lkf_fr h8] at w4
      obtain ⟨p4, p5, p6⟩ := w4
      obtain ⟨p6, p7, _⟩ := p6 (by have := lkf_pos σ q; omega)
      exact ⟨p4, p5, p6, p7⟩
    refine ⟨τ, w1, f, hk, VV_70 h f (Or.inr ⟨ver, Nat.le_refl _, by rw [w3, e3], fun _ => ⟨σ, fun k u _ _ => by rw [dm_fr (show τ.1 118 = σ.1 118 from FR_i f (by decide))], hk⟩⟩)⟩
theorem op_sets {n q ver : Nat} {σ : Sg} (hn : n < 512) (h : VV n q ver σ) (a : Int32) : ∃ r σ1 σ2, j_sets_0 a σ = some (r, σ1) ∧ m_sets1_117 a σ1 = some (r, σ2) ∧ VI (n + 1) σ2 := by
  unfold j_sets_0 j_sets_0_b9 j_sets_0_b57 m_sets1_117 m_sets1_117_b40 m_sets1_117_b43
  rcases in_out a (q := 3) (by decide) with o | ⟨k, hk, rfl⟩
  · have ho := out_lt (by decide) o
    refine ⟨-2, rj 2 σ, rm 2 (rj 2 σ), ?_, ?_, fin_ref hn (by omega) (by omega) h (Kp_refl _) (Kp_refl _)⟩
    · by_cases g : a < 0
      · rw [if_pos g, jr2, bd_s]
      · rw [if_neg g, if_neg (show ¬ a ≤ 2 from fun w => by
          have := (le_l (b := 2) (by omega)).mp w
          have g2 : ¬ a.toInt < ((0 : Nat) : Int) := fun w => g ((lt_l (a := a) (b := 0) (by omega)).mpr w)
          omega), jr2, bd_s]
    · rw [show m_isIn_s a.toInt64 0 2 (rj 2 σ) = some (0, rj 2 σ) from isIn_out (a := 0) (b := 2) (by omega) (by omega) (by omega), bd_s, if_pos rfl, mr2, bd_s]
  · obtain ⟨τ, w1, w2, w3, w4⟩ := jlook h
    have h8 : τ.1 118 = σ.1 118 := FR_i w2 (by decide)
    have hin : m_isIn_s (nI k).toInt64 0 2 τ = some (1, τ) := isIn_in (a := 0) (b := 2) (by omega) (by omega) (by rw [nI_toInt (by omega)]; omega)
    obtain ⟨p4, p5, p6, p7⟩ := w3
    have e : j_sets_0 (nI k) σ = some (if k = 0 then τ.1 70 4 else if k = 1 then τ.1 70 6 else τ.1 70 7, τ) := by
      unfold j_sets_0 j_sets_0_b57
      rw [if_neg (nI_pos (by omega)), if_pos (show nI k ≤ 2 from (le_l (b := 2) (by omega)).mpr (by rw [nI_toInt (by omega)]; omega)), w1, bd_s]
      rcases (show k = 0 ∨ k = 1 ∨ k = 2 by omega) with rfl | rfl | rfl
      · rw [if_pos (show nI 0 = 0 from rfl), if_pos rfl]
      · rw [if_neg (show ¬ nI 1 = 0 by decide), if_pos (show nI 1 = 1 from rfl), if_neg (by decide), if_pos rfl]
      · rw [if_neg (show ¬ nI 2 = 0 by decide), if_neg (show ¬ nI 2 = 1 by decide), if_neg (by decide), if_neg (by decide)]
    unfold j_sets_0 j_sets_0_b57 at e
    rcases (show k = 0 ∨ k = 1 ∨ k = 2 by omega) with rfl | rfl | rfl
    · obtain ⟨τ', x1, x2⟩ := mcount (τ0 := τ) h h8
      refine ⟨τ.1 70 4, τ, τ', e, ?_, fin_kp hn w4 (Kp_S x2 (by decide))⟩
      rw [hin, bd_s, if_neg (by decide), if_pos (show nI 0 = 0 from rfl), x1, bd_s, p4]
    · obtain ⟨τ', x1, x2⟩ := mfirst (τ0 := τ) h h8
      refine ⟨τ.1 70 6, τ, τ', e, ?_, fin_kp hn w4 (Kp_S x2 (by decide))⟩
      rw [hin, bd_s, if_neg (by decide), if_neg (show ¬ nI 1 = 0 by decide), if_pos (show nI 1 = 1 from rfl), x1, bd_s, p6]
    · obtain ⟨τ', x1, x2⟩ := mbest (τ0 := τ) h h8
      refine ⟨τ.1 70 7, τ, τ', e, ?_, fin_kp hn w4 (Kp_S x2 (by decide))⟩
      rw [hin, bd_s, if_neg (by decide), if_neg (show ¬ nI 2 = 0 by decide), if_neg (show ¬ nI 2 = 1 by decide), x1, bd_s, p7]
theorem op_odds {n q ver : Nat} {σ : Sg} (hn : n < 512) (h : VV n q ver σ) (a : Int32) : ∃ r σ1 σ2, j_odds_0 a σ = some (r, σ1) ∧ m_odds_117 a σ1 = some (r, σ2) ∧ VI (n + 1) σ2 := by
  have hq := vq h
  have h2 := pw_256 hq
  unfold j_odds_0 m_odds_117
  rcases in_out a (q := 2) (by decide) with o | ⟨p, hp, rfl⟩
  · refine ⟨4000000000000000000 - (-2 : Int32).toInt64, rj 2 σ, rm 2 (rj 2 σ), ?_, ?_, fin_ref hn (by omega) (by omega) h (Kp_refl _) (Kp_refl _)⟩
    · rw [jpa_out o, bd_s, if_pos rfl, jl2, bd_s]
    · rw [mpa_out o, bd_s, if_pos rfl, ml_2, bd_s]
  · obtain ⟨τ, w1, w2, w3, w4⟩ := jlook h
    have h8 : τ.1 118 = σ.1 118 := FR_i w2 (by decide)
    obtain ⟨p4, p5, _, _⟩ := w3
    have hle := lkf_le σ q (2 ^ q)
    have hpos := lkf_pos σ q
    obtain ⟨τ1, x1, x2⟩ := mfirm (σ := τ) (by rw [h8]; exact v0 h) hq (vA w4)
    have h81 : τ1.1 118 = σ.1 118 := (show τ1.1 118 = τ.1 118 from FR_i x2 (by decide)).trans h8
    obtain ⟨τ2, y1, y2⟩ := mcount (τ0 := τ1) h h81
    obtain ⟨r, z1, z2⟩ := part_eq (x := (nI (lkf σ q (2 ^ q)).1).toInt64) (y := (nI (lkf σ q (2 ^ q)).2.1).toInt64) (a := ((lkf σ q (2 ^ q)).1 : Int)) (b := ((lkf σ q (2 ^ q)).2.1 : Int)) (by rw [Int32.toInt_toInt64, nI_toInt (by omega)]) (by rw [Int32.toInt_toInt64, nI_toInt (by omega)]) (by omega) (by omega) hp τ τ2
    refine ⟨r, τ, τ2, ?_, ?_, fin_kp hn w4 (Kp_trans (Kp_S x2 (by decide)) (Kp_S y2 (by decide)))⟩
    · rw [jpa_in hp, bd_s, if_neg (by decide), w1, bd_s, p4, p5, z1, bd_s]
    · have hP : PV τ q = PV σ q := by unfold PV; rw [(same118 h8).1]
      rw [mpa_in hp, bd_s, if_neg (by decide), x1, bd_s, hP, mbits (PV_lt σ q) hq, bd_s, show cntS (PV σ q) q = RK σ q from (RK_eq σ q).symm, modds h h81, y1, bd_s, z2, bd_s]
/-- the least looked for -/
theorem jleast {n q ver : Nat} {σ : Sg} (h : VV n q ver σ) : ∃ τ, j_findLeast_80 σ = some ((), τ) ∧ FR [80, 81] σ τ ∧ LSP σ q τ ∧ VV n q ver τ := by
  have hv1 : n ≤ 512 := h.1
  have hv2 : ver ≤ n := h.2.1
  have hq := vq h
  obtain ⟨h104, hcc⟩ : CSe q ver σ := h.2.2.2.2.2.2.2.2.2.2.2.2
  unfold j_findLeast_80
  rw [vver h]
  by_cases g : σ.1 80 3 = nI ver
  · refine ⟨σ, by rw [if_pos g], FR_refl _ _, ?_, h⟩
    rcases hcc with c | ⟨w, c1, c2, c3⟩
    · rw [c] at g
      have := (eq_l (a := -1) (b := ver) (by omega)).mp g
      rw [show (-1 : Int32).toInt = -1 by decide] at this; omega
    · rw [c2] at g
      obtain ⟨ρ, d, l⟩ := c3 ((nI_eq (by omega) (by omega)).mp g)
      exact LSP_cg d l
  · rw [if_neg g]
    generalize hτ0 : si (si σ 80 3 (nI ver)) 80 2 0 = τ0
    have f0 : FR [80, 81] σ τ0 := by rw [← hτ0]; exact FR_si (FR_si (FR_refl _ _) (by decide)) (by decide)
    obtain ⟨τ1, x1, x2, x3⟩ := jfill81 τ0
    have e80 : τ1.1 80 = τ0.1 80 := FR_i x2 (by decide)
    have e3 : τ1.1 80 3 = nI ver := by rw [e80, ← hτ0, si_j (by omega), si_e]
    have e4 : τ1.1 80 2 = 0 := by rw [e80, ← hτ0, si_e]
    obtain ⟨τ, w1, w2, w3, w4⟩ := jfind (τ0 := τ1) h (FR_trans f0 (FR_mono (by decide) x2)) e4 (fun j hj => x3 j (by omega))
    have h8 : τ.1 118 = σ.1 118 := FR_i w2 (by decide)
    refine ⟨τ, by rw [x1, bd_s, w1], w2, w4, VV_80 h w2 ⟨fun u hu => by rw [FR_i w2 (by decide)]; exact h104 u hu, Or.inr ⟨ver, Nat.le_refl _, by rw [w3 3 (by omega), e3], fun _ => ⟨σ, fun k u _ _ => by rw [dm_fr h8], w4⟩⟩⟩⟩
theorem lsv_eq {σ τ : Sg} {q : Nat} (h : LSP σ q τ) : lsv σ q (-1) = τ.1 80 2 ∧ ∀ k, k < q → q ≤ 8 → lsv σ q (nI k) = τ.1 81 k := by
  unfold lsv
  unfold LSP at h
  cases e : lsT σ q 6 1 with
  | none =>
    rw [e] at h
    exact ⟨h.1.symm, fun k hk _ => (h.2 k hk).symm⟩
  | some p =>
    rw [e] at h
    obtain ⟨h1, h2, h3, h4⟩ := h
    refine ⟨?_, ?_⟩
    · show (if (-1 : Int32) = -1 then nI p.1 else xI (p.2.getD (-1 : Int32).toInt.toNat 0)) = _
      rw [if_pos rfl, h1]
    · intro k hk hq
      have hne : ¬ nI k = -1 := fun w => by
        have := (eq_l (a := -1) (b := k) (by omega)).mp w.symm
        rw [show (-1 : Int32).toInt = -1 by decide] at this; omega
      show (if nI k = -1 then nI p.1 else xI (p.2.getD (nI k).toInt.toNat 0)) = _
      rw [if_neg hne, show (nI k).toInt.toNat = k by rw [nI_toInt (by omega)]; omega, ← h4 k hk]
      unfold xI
      exact Int32.ofInt_toInt _
theorem op_least {n q ver : Nat} {σ : Sg} (hn : n < 512) (h : VV n q ver σ) (a : Int32) : ∃ r σ1 σ2, j_least_0 a σ = some (r, σ1) ∧ m_least_117 a σ1 = some (r, σ2) ∧ VI (n + 1) σ2 := by
  have hq := vq h
  have h1 := (v_118 h).2.1
  unfold j_least_0 j_least_0_b19 j_least_0_b50 m_least_117
  by_cases g : a = -1
  · subst g
    obtain ⟨τ, w1, w2, w3, w4⟩ := jleast h
    obtain ⟨τ', x1, x2⟩ := mleast (τ0 := τ) h (FR_i w2 (by decide)) (v := -1) (Or.inl rfl)
    refine ⟨τ.1 80 2, τ, τ', ?_, ?_, fin_kp hn w4 (Kp_S x2 (by decide))⟩
    · rw [if_pos rfl, w1, bd_s, if_pos rfl]
    · rw [if_pos rfl, x1, (lsv_eq w3).1]
  · rcases in_out a (q := q) (by omega) with o | ⟨k, hk, rfl⟩
    · refine ⟨1000000000 - (-1), rj 1 σ, rm 1 (rj 1 σ), ?_, ?_, fin_ref hn (by omega) (by omega) h (Kp_refl _) (Kp_refl _)⟩
      · rw [if_neg g, jq_out h1 o, bd_s, if_pos rfl, jrf1, bd_s]
      · rw [if_neg g, mq_out hq (by rw [rj_118]; exact v0 h) o, bd_s, if_pos rfl, mrf1, bd_s]
    · obtain ⟨τ, w1, w2, w3, w4⟩ := jleast h
      obtain ⟨τ', x1, x2⟩ := mleast (τ0 := τ) h (FR_i w2 (by decide)) (v := nI k) (Or.inr ⟨k, hk, rfl⟩)
      refine ⟨τ.1 81 k, τ, τ', ?_, ?_, fin_kp hn w4 (Kp_S x2 (by decide))⟩
      · rw [if_neg g, jq_in hq h1 hk, bd_s, if_neg (by decide), w1, bd_s, if_neg g, inB_t (by omega) (by omega), gd_t, cl_n (by omega)]
      · rw [if_neg g, mq_in hq (v0 w4) hk, bd_s, if_neg (by decide), x1, (lsv_eq w3).2 k hk hq]
