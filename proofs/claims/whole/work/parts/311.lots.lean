/-! ===== PURE: lots ===== -/
def sdn (z : Int32) : Int32 := (z * 1664525) + 1013904223
def drw (z : Int32) : Int32 := irm ((sdn z &&& 2147483647) / 256) 5 - 2
def sds (z : Int32) : Nat → Int32
  | 0 => z
  | k + 1 => sdn (sds z k)
theorem irm5 (x : Int32) : -5 < (irm x 5).toInt ∧ (irm x 5).toInt < 5 := by
  unfold irm
  have hx := I_rng x
  have h5 : (5 : Int32).toInt = 5 := by decide
  have hd : (x / 5).toInt = x.toInt.tdiv 5 := by
    have hn : (x.toInt.tdiv 5).natAbs ≤ x.toInt.natAbs := by
      rw [Int.natAbs_tdiv]; exact Nat.div_le_self _ _
    rw [Int32.toInt_div, h5]
    by_cases e : x.toInt = -2147483648
    · rw [e]; decide
    · exact bm32 (by omega) (by omega)
  have hm := Int.tmod_add_tdiv_mul x.toInt 5
  have hlt := Int.tmod_lt_of_pos x.toInt (show (0 : Int) < 5 by decide)
  have hgt : -5 < x.toInt.tmod 5 := by
    have := Int.natAbs_tmod x.toInt 5
    have h2 := Nat.mod_lt x.toInt.natAbs (show 0 < (5 : Int).natAbs by decide)
    omega
  have hmul : (x / 5 * 5).toInt = x.toInt.tdiv 5 * 5 := by
    have hb : (x.toInt.tdiv 5 * 5).natAbs ≤ x.toInt.natAbs := by
      rw [Int.natAbs_mul, Int.natAbs_tdiv]; exact Nat.div_mul_le_self _ _
    rw [Int32.toInt_mul, hd, h5]
    by_cases e : x.toInt = -2147483648
    · rw [e]; decide
    · exact bm32 (by omega) (by omega)
  have : (x - x / 5 * 5).toInt = x.toInt.tmod 5 := by
    rw [Int32.toInt_sub, hmul, bm32 (by omega) (by omega)]
    omega
  rw [this]
  exact ⟨hgt, hlt⟩
theorem drw_ok (z : Int32) : nok (drw z) := by
  unfold drw
  have := irm5 ((sdn z &&& 2147483647) / 256)
  have h2 : (irm ((sdn z &&& 2147483647) / 256) 5 - 2).toInt = (irm ((sdn z &&& 2147483647) / 256) 5).toInt - 2 := by
    rw [Int32.toInt_sub, show (2 : Int32).toInt = 2 by decide]; exact bm32 (by omega) (by omega)
  refine ⟨Int32.le_iff_toInt_le.mpr ?_, Int32.le_iff_toInt_le.mpr ?_⟩
  · rw [h2, show (-99 : Int32).toInt = -99 by decide]; omega
  · rw [h2, show (99 : Int32).toInt = 99 by decide]; omega
theorem szd_fr {f : Nat → Int32} {σ σ' : Sg} {q : Nat} (hd : dm σ' = dm σ) (u : Nat) : szd f σ' q u = szd f σ q u := szd_cg hd (fun _ _ => rfl) u
/-- a lot drawn: the class -/
theorem jlot {k53 : Int32 → Int32 → Int32 → Int32 → Int32 → Int32 → Sg → Option (Int32 × Sg)} {n q ver : Nat} {v1 v3 pu0 tg z v7 : Int32} {σ : Sg} (h : VV n q ver σ) : ∃ σ', j_lots_0_L62 k53 fu v1 v3 pu0 tg z v7 0 σ = k53 v1 v3 (pu0 + pu (fun k => drw (sds z k)) σ q 5) (tg + szd (fun k => drw (sds z k)) σ q 5) (sds z q) (v7 + 1) σ' ∧ FR [114] σ σ' := by
  have hq := vq h
  refine loopE (L := fun m p (s : Sg) => j_lots_0_L62 k53 m v1 v3 pu0 tg (sds z p) v7 (nI p) s) (N := q) (P := fun p τ => FR [114] σ τ ∧ ∀ j, j < p → τ.1 114 j = drw (sds z j)) (Q := fun r => ∃ σ', r = k53 v1 v3 (pu0 + pu (fun k => drw (sds z k)) σ q 5) (tg + szd (fun k => drw (sds z k)) σ q 5) (sds z q) (v7 + 1) σ' ∧ FR [114] σ σ') ?_ ?_ (fu_lt (by omega)) ⟨FR_refl _ _, fun j h => absurd h (Nat.not_lt_zero _)⟩
  · rintro m p τ hp ⟨f, g⟩
    refine ⟨si τ 114 p (drw (sds z p)), ?_, FR_si f (by decide), ?_⟩
    · show j_lots_0_H62 k53 (j_lots_0_L62 k53 m) v1 v3 pu0 tg (sds z p) v7 (nI p) τ = _
      unfold j_lots_0_H62
      rw [FR_i f (by decide), (vMR h).1, if_neg (nI_ge hp (by omega)), inB_t (by omega) (by omega), gd_t, cl_n (by omega), nI_1]
      rfl
    · intro j hj
      by_cases e : j = p
      · subst e; rw [si_e]
      · rw [si_j e]; exact g j (by omega)
  · rintro m τ ⟨f, g⟩
    have kτ : Kp σ τ := Kp_S f (by decide)
    have hv := VV_kp h kτ
    refine ⟨τ, ?_, f⟩
    have hp := jpp hv (fun k hk => by rw [g k hk]; exact drw_ok _)
    have e1 : pu (τ.1 114) τ q 5 = pu (fun k => drw (sds z k)) σ q 5 := pu_cg (Kdm kτ) (fun j hj => g j hj) 5
    have e2 : szd (τ.1 114) τ q 5 = szd (fun k => drw (sds z k)) σ q 5 := szd_cg (Kdm kτ) (fun j hj => g j hj) 5
    show j_lots_0_H62 k53 (j_lots_0_L62 k53 m) v1 v3 pu0 tg (sds z q) v7 (nI q) τ = _
    unfold j_lots_0_H62 j_lots_0_b134
    rw [FR_i f (by decide), (vMR h).1, if_pos (nI_le (by omega) (by omega)), hp, bd_s, jsum hq (vSP hv), bd_s, e1, e2]
    rcases pu_01 (fun k => drw (sds z k)) σ q 5 with ⟨e, _⟩ | ⟨e, _⟩
    · rw [e, if_neg (by decide), bd_s]
    · rw [e, if_pos rfl]
theorem iabs_neg {x : Int32} : (if 0 ≤ x then x else -x) = iabs x := by
  unfold iabs
  split
  · rfl
  · grind
/-- a lot drawn: the reference -/
theorem mlot_u {k54 : Int32 → Int32 → Int32 → Int32 → Int32 → Sg → Option (Int32 × Sg)} {q : Nat} {v1 v3 v4 v5 v6 : Int32} {σ : Sg} (hq : q ≤ 8) (h0 : σ.1 118 0 = nI q) : m_lots_117_L114 k54 fu v1 v3 v4 v5 v6 0 σ = k54 v1 v3 v4 (v5 + szd (σ.1 128) σ q 5) (v6 + 1) σ := by
  have ad00 : v5 + szd (σ.1 128) σ q 0 = v5 := ad0 v5
  refine loopE (L := fun m u (s : Int32) => m_lots_117_L114 k54 m v1 v3 v4 s v6 (nI u) σ) (N := 5) (P := fun u s => s = v5 + szd (σ.1 128) σ q u) (Q := fun r => r = k54 v1 v3 v4 (v5 + szd (σ.1 128) σ q 5) (v6 + 1) σ) ?_ ?_ (by decide) ad00.symm
  · rintro m u s hu rfl
    refine ⟨_, ?_, rfl⟩
    have inner : m_lots_117_L126 k54 (m_lots_117_L114 k54 m) fu v1 v3 v4 (v5 + szd (σ.1 128) σ q u) v6 (nI u) 0 0 σ = m_lots_117_L114 k54 m v1 v3 v4 ((v5 + szd (σ.1 128) σ q u) + iabs (sdp (σ.1 128) σ u q)) v6 (nI (u + 1)) σ := by
      refine loopE (L := fun k p (s : Int32) => m_lots_117_L126 k54 (m_lots_117_L114 k54 m) k v1 v3 v4 (v5 + szd (σ.1 128) σ q u) v6 (nI u) s (nI p) σ) (N := q) (P := fun p s => s = sdp (σ.1 128) σ u p) (Q := fun r => r = m_lots_117_L114 k54 m v1 v3 v4 ((v5 + szd (σ.1 128) σ q u) + iabs (sdp (σ.1 128) σ u q)) v6 (nI (u + 1)) σ) ?_ ?_ (fu_lt (by omega)) rfl
      · rintro k p s hp rfl
        refine ⟨_, ?_, rfl⟩
        show m_lots_117_H126 k54 (m_lots_117_L114 k54 m) (m_lots_117_L126 k54 (m_lots_117_L114 k54 m) k) v1 v3 v4 _ v6 (nI u) _ (nI p) σ = _
        unfold m_lots_117_H126
        rw [h0, if_neg (nI_ge hp (by omega)), inB_t (by omega) (by omega), gd_t, mpw (by omega) hu, bd_s, cl_n (by omega), nI_1]
        rfl
      · rintro k s rfl
        show m_lots_117_H126 k54 (m_lots_117_L114 k54 m) (m_lots_117_L126 k54 (m_lots_117_L114 k54 m) k) v1 v3 v4 _ v6 (nI u) _ (nI q) σ = _
        unfold m_lots_117_H126 m_lots_117_b179
        rw [h0, if_pos (nI_le (by omega) (by omega)), nI_1, ← iabs_neg]
        split <;> rfl
    show m_lots_117_H114 k54 (m_lots_117_L114 k54 m) v1 v3 v4 _ v6 (nI u) σ = _
    unfold m_lots_117_H114
    rw [if_neg (show ¬ (5 : Int32) ≤ nI u from nI_ge (b := 5) hu (by decide))]
    refine inner.trans ?_
    have : v5 + szd (σ.1 128) σ q u + iabs (sdp (σ.1 128) σ u q) = v5 + szd (σ.1 128) σ q (u + 1) := by
      show _ = v5 + (szd (σ.1 128) σ q u + iabs (sdp (σ.1 128) σ u q))
      rw [Int32.add_assoc]
    rw [this]
  · rintro m s rfl
    show m_lots_117_H114 k54 (m_lots_117_L114 k54 m) v1 v3 v4 _ v6 (nI 5) σ = _
    unfold m_lots_117_H114
    rw [if_pos (show (5 : Int32) ≤ nI 5 by decide)]
/-- drawn numbers only -/
def FZ (σ σ' : Sg) : Prop := (∀ c, c ≠ 117 → c ≠ 128 → σ'.1 c = σ.1 c) ∧ σ'.2 = σ.2 ∧ ∀ j, j ≠ 26 → σ'.1 117 j = σ.1 117 j
theorem FZ_Kp {σ σ' : Sg} (h : FZ σ σ') : Kp σ σ' := ⟨fun c hc => ⟨h.1 c (by unfold kp at hc; omega) (by unfold kp at hc; omega), by rw [h.2.1]⟩, h.2.2 2 (by omega), h.2.2 5 (by omega), h.2.2 7 (by omega)⟩
theorem mlot {k54 : Int32 → Int32 → Int32 → Int32 → Int32 → Sg → Option (Int32 × Sg)} {n q ver : Nat} {v1 v3 pu0 tg z v7 : Int32} {σ : Sg} (h : VV n q ver σ) (hz : σ.1 117 26 = z) : ∃ σ', m_lots_117_L63 k54 fu v1 v3 pu0 tg v7 0 σ = k54 v1 v3 (pu0 + pu (fun k => drw (sds z k)) σ q 5) (tg + szd (fun k => drw (sds z k)) σ q 5) (v7 + 1) σ' ∧ FZ σ σ' ∧ σ'.1 117 26 = sds z q := by
  have hq := vq h
  refine loopE (L := fun m p (s : Sg) => m_lots_117_L63 k54 m v1 v3 pu0 tg v7 (nI p) s) (N := q) (P := fun p τ => FZ σ τ ∧ τ.1 117 26 = sds z p ∧ ∀ j, j < p → τ.1 128 j = drw (sds z j)) (Q := fun r => ∃ σ', r = k54 v1 v3 (pu0 + pu (fun k => drw (sds z k)) σ q 5) (tg + szd (fun k => drw (sds z k)) σ q 5) (v7 + 1) σ' ∧ FZ σ σ' ∧ σ'.1 117 26 = sds z q) ?_ ?_ (fu_lt (by omega)) ⟨⟨fun _ _ _ => rfl, rfl, fun _ _ => rfl⟩, hz, fun j h => absurd h (Nat.not_lt_zero _)⟩
  · rintro m p τ hp ⟨f, fz, g⟩
    refine ⟨si (si τ 117 26 (sdn (sds z p))) 128 p (drw (sds z p)), ?_, ⟨?_, f.2.1, ?_⟩, ?_, ?_⟩
    · show m_lots_117_H63 k54 (m_lots_117_L63 k54 m) v1 v3 pu0 tg v7 (nI p) τ = _
      unfold m_lots_117_H63 m_draws_117
      rw [f.1 118 (by omega) (by omega), v0 h, if_neg (nI_ge hp (by omega)), show neB 5 = true by decide, gd_t, fz, bd_s, si_e, inB_t (by omega) (by omega), gd_t, cl_n (by omega), nI_1]
      rfl
    · intro c c1 c2; rw [si_c c2, si_c c1]; exact f.1 c c1 c2
    · intro j hj; rw [si_c (by omega), si_j hj]; exact f.2.2 j hj
    · rw [si_c (by omega), si_e]; rfl
    · intro j hj
      by_cases e : j = p
      · subst e; rw [si_e]
      · rw [si_j e, si_c (by omega)]; exact g j (by omega)
  · rintro m τ ⟨f, fz, g⟩
    have kτ := FZ_Kp f
    have hv := VV_kp h kτ
    refine ⟨τ, ?_, f, fz⟩
    have e1 : pu (τ.1 128) τ q 5 = pu (fun k => drw (sds z k)) σ q 5 := pu_cg (Kdm kτ) (fun j hj => g j hj) 5
    have e2 : szd (τ.1 128) τ q 5 = szd (fun k => drw (sds z k)) σ q 5 := szd_cg (Kdm kτ) (fun j hj => g j hj) 5
    show m_lots_117_H63 k54 (m_lots_117_L63 k54 m) v1 v3 pu0 tg v7 (nI q) τ = _
    unfold m_lots_117_H63 m_lots_117_b108
    rw [v0 hv, if_pos (nI_le (by omega) (by omega)), mtp hq (v0 hv), bd_s, mlot_u hq (v0 hv), mlot_u hq (v0 hv), e1, e2]
    rcases pu_01 (fun k => drw (sds z k)) σ q 5 with ⟨e, _⟩ | ⟨e, _⟩
    · rw [e, if_neg (by decide)]
    · rw [e, if_pos rfl]
/-- after so many lots: seed, pure ones, together -/
def lts (σ : Sg) (q : Nat) (z : Int32) : Nat → Int32 × Int32 × Int32
  | 0 => (z, 0, 0)
  | k + 1 => (sds (lts σ q z k).1 q, (lts σ q z k).2.1 + pu (fun j => drw (sds (lts σ q z k).1 j)) σ q 5, (lts σ q z k).2.2 + szd (fun j => drw (sds (lts σ q z k).1 j)) σ q 5)
theorem op_lots {n q ver : Nat} {σ : Sg} (hn : n < 512) (h : VV n q ver σ) (a b c : Int32) : ∃ r σ1 σ2, j_lots_0 a b c σ = some (r, σ1) ∧ m_lots_117 a b c σ1 = some (r, σ2) ∧ VI (n + 1) σ2 := by
  have hq := vq h
  unfold j_lots_0 j_lots_0_b41 m_lots_117
  by_cases g1 : 1 ≤ a
  · by_cases g2 : a ≤ 50
    · rcases in_out c (q := 2) (by decide) with o | ⟨p, hp, rfl⟩
      · have c0 : ¬ c = 0 := by
          rintro rfl; rcases o with o | o <;> exact absurd o (by decide)
        have c1 : ¬ c = 1 := by
          rintro rfl; rcases o with o | o <;> exact absurd o (by decide)
        refine ⟨-2, rj 2 σ, rm 2 (rj 2 σ), ?_, ?_, fin_ref hn (by omega) (by omega) h (Kp_refl _) (Kp_refl _)⟩
        · rw [if_pos g1, if_pos g2, if_neg c0, if_neg c1, jr2, bd_s]
        · rw [if_pos g1, if_pos g2, mpa_out o, bd_s, if_pos rfl, mr2, bd_s]
      · obtain ⟨N, hN, hN0, rfl⟩ : ∃ N : Nat, N ≤ 50 ∧ 1 ≤ N ∧ a = nI N := by
          have w1 := (le_l (b := 50) (by omega)).mp g2
          have w2 := (ge_l (b := 1) (by omega)).mp g1
          exact ⟨a.toInt.toNat, by omega, by omega, of_t (by omega) (by omega)⟩
        have hj : ∃ σ', j_lots_0_L53 fu (nI N) (nI p) 0 0 b 0 σ = some (if p = 0 then (lts σ q b N).2.1 else (lts σ q b N).2.2, σ') ∧ FR [114] σ σ' := by
          refine loopE (L := fun m k (s : Sg) => j_lots_0_L53 m (nI N) (nI p) (lts σ q b k).2.1 (lts σ q b k).2.2 (lts σ q b k).1 (nI k) s) (N := N) (P := fun k τ => FR [114] σ τ) (Q := fun r => ∃ σ', r = some (if p = 0 then (lts σ q b N).2.1 else (lts σ q b N).2.2, σ') ∧ FR [114] σ σ') ?_ ?_ (fu_lt (by omega)) (FR_refl _ _)
          · rintro m k τ hk f
            have kτ : Kp σ τ := Kp_S f (by decide)
            obtain ⟨σ', w1, w2⟩ := jlot (k53 := j_lots_0_L53 m) (v1 := nI N) (v3 := nI p) (pu0 := (lts σ q b k).2.1) (tg := (lts σ q b k).2.2) (z := (lts σ q b k).1) (v7 := nI k) (VV_kp h kτ)
            refine ⟨σ', ?_, FR_trans f w2⟩
            show j_lots_0_H53 (j_lots_0_L53 m) (nI N) (nI p) _ _ _ (nI k) τ = _
            unfold j_lots_0_H53
            rw [if_neg (nI_ge hk (by omega)), w1, nI_1, pu_cg (f := fun j => drw (sds (lts σ q b k).1 j)) (Kdm kτ) (fun _ _ => rfl), szd_fr (Kdm kτ)]
            rfl
          · rintro m τ f
            refine ⟨τ, ?_, f⟩
            show j_lots_0_H53 (j_lots_0_L53 m) (nI N) (nI p) _ _ _ (nI N) τ = _
            unfold j_lots_0_H53 j_lots_0_b170
            rw [if_pos (nI_le (by omega) (by omega))]
            have : p = 0 ∨ p = 1 := by omega
            rcases this with rfl | rfl <;> rfl
        obtain ⟨σ1, w1, w2⟩ := hj
        have k1 : Kp σ σ1 := Kp_S w2 (by decide)
        have hm : ∃ σ', m_lots_117_L54 fu (nI N) (nI p) 0 0 0 (si σ1 117 26 b) = some (if p = 0 then (lts σ q b N).2.1 else (lts σ q b N).2.2, σ') ∧ FZ σ1 σ' := by
          refine loopE (L := fun m k (s : Sg) => m_lots_117_L54 m (nI N) (nI p) (lts σ q b k).2.1 (lts σ q b k).2.2 (nI k) s) (N := N) (P := fun k τ => FZ σ1 τ ∧ τ.1 117 26 = (lts σ q b k).1) (Q := fun r => ∃ σ', r = some (if p = 0 then (lts σ q b N).2.1 else (lts σ q b N).2.2, σ') ∧ FZ σ1 σ') ?_ ?_ (fu_lt (by omega)) ⟨⟨fun c' c1 c2 => si_c c1, rfl, fun j hj => si_j hj⟩, si_e⟩
          · rintro m k τ hk ⟨f, fz⟩
            have kτ : Kp σ τ := Kp_trans k1 (FZ_Kp f)
            obtain ⟨σ', x1, x2, x3⟩ := mlot (k54 := m_lots_117_L54 m) (v1 := nI N) (v3 := nI p) (pu0 := (lts σ q b k).2.1) (tg := (lts σ q b k).2.2) (z := (lts σ q b k).1) (v7 := nI k) (VV_kp h kτ) fz
            refine ⟨σ', ?_, ⟨fun c' c1 c2 => (x2.1 c' c1 c2).trans (f.1 c' c1 c2), x2.2.1.trans f.2.1, fun j hj => (x2.2.2 j hj).trans (f.2.2 j hj)⟩, x3⟩
            show m_lots_117_H54 (m_lots_117_L54 m) (nI N) (nI p) _ _ (nI k) τ = _
            unfold m_lots_117_H54
            rw [if_neg (nI_ge hk (by omega)), x1, nI_1, pu_cg (f := fun j => drw (sds (lts σ q b k).1 j)) (Kdm kτ) (fun _ _ => rfl), szd_fr (Kdm kτ)]
            rfl
          · rintro m τ ⟨f, fz⟩
            refine ⟨τ, ?_, f⟩
            show m_lots_117_H54 (m_lots_117_L54 m) (nI N) (nI p) _ _ (nI N) τ = _
            unfold m_lots_117_H54 m_lots_117_b205
            rw [if_pos (nI_le (by omega) (by omega))]
            have : p = 0 ∨ p = 1 := by omega
            rcases this with rfl | rfl <;> rfl
        obtain ⟨σ2, y1, y2⟩ := hm
        refine ⟨if p = 0 then (lts σ q b N).2.1 else (lts σ q b N).2.2, σ1, σ2, ?_, ?_, fin_kp hn h (Kp_trans k1 (FZ_Kp y2))⟩
        · rw [if_pos g1, if_pos g2]
          have : p = 0 ∨ p = 1 := by omega
          rcases this with rfl | rfl
          · rw [if_pos (show nI 0 = 0 from rfl)]; exact w1
          · rw [if_neg (by decide), if_pos (show nI 1 = 1 from rfl)]; exact w1
        · rw [if_pos g1, if_pos g2, mpa_in hp, bd_s, if_neg (by decide), y1]
    · refine ⟨-6, rj 6 σ, rm 6 (rj 6 σ), ?_, ?_, fin_ref hn (by omega) (by omega) h (Kp_refl _) (Kp_refl _)⟩
      · rw [if_pos g1, if_neg g2, jr6, bd_s]
      · rw [if_pos g1, if_neg g2, mr6, bd_s]
  · refine ⟨-4, rj 4 σ, rm 4 (rj 4 σ), ?_, ?_, fin_ref hn (by omega) (by omega) h (Kp_refl _) (Kp_refl _)⟩
    · rw [if_neg g1, jr4, bd_s]
    · rw [if_neg g1, mr4, bd_s]
