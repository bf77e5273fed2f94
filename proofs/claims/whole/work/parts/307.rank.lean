/-! ===== PURE: rank ===== -/
/-- no lesser one is alike -/
def nwB (σ : Sg) (k : Nat) : Bool := (ff (fun j => lk σ j k) k 0).isNone
/-- how many DIMENSIONS there are -/
def dfn (σ : Sg) : Nat → Nat
  | 0 => 0
  | k + 1 => dfn σ k + (if nwB σ k = true then 1 else 0)
theorem dfn_le (σ : Sg) : ∀ k, dfn σ k ≤ k
  | 0 => Nat.le_refl _
  | k + 1 => by
    have := dfn_le σ k
    unfold dfn
    split <;> omega
theorem nw_iff {σ : Sg} {k : Nat} : nwB σ k = true ↔ ∀ j, j < k → lk σ j k = false := by
  unfold nwB
  constructor
  · intro h j hj
    rw [Option.isNone_iff_eq_none] at h
    exact ff_none h j (by omega) (by omega)
  · intro h
    rw [Option.isNone_iff_eq_none]
    cases hf : ff (fun j => lk σ j k) k 0 with
    | none => rfl
    | some x =>
      obtain ⟨h1, h2, h3, h4⟩ := ff_some hf
      rw [h x (by omega)] at h3; cases h3
theorem jdiff_in {k4 : Int32 → Int32 → Sg → Option (Int32 × Sg)} {n q ver k : Nat} {v : Int32} {σ : Sg} (h : VV n q ver σ) (hk : k < q) : j_differentDimensions_51_L17 k4 fu v (nI k) 0 0 σ = k4 (v + (if nwB σ k = true then (1 : Int32) else 0)) (nI (k + 1)) σ := by
  have hq := vq h
  refine loopE (L := fun m p (c : Nat) => j_differentDimensions_51_L17 k4 m v (nI k) (nI c) (nI p) σ) (N := k) (s := 0) (P := fun p c => c ≤ p ∧ (c = 0 ↔ ∀ j, j < p → lk σ j k = false)) (Q := fun r => r = k4 (v + (if nwB σ k = true then (1 : Int32) else 0)) (nI (k + 1)) σ) ?_ ?_ (fu_lt (by omega)) ⟨Nat.le_refl _, fun _ j h => absurd h (Nat.not_lt_zero _), fun _ => rfl⟩
  · rintro m p c hp ⟨g1, g2⟩
    have st : j_differentDimensions_51_L17 k4 (m + 1) v (nI k) (nI c) (nI p) σ = j_differentDimensions_51_L17 k4 m v (nI k) (nI (c + if lk σ p k = true then 1 else 0)) (nI (p + 1)) σ := by
      show j_differentDimensions_51_H17 k4 (j_differentDimensions_51_L17 k4 m) v (nI k) (nI c) (nI p) σ = _
      unfold j_differentDimensions_51_H17 j_differentDimensions_51_b46
      have hl := lk_ky (vMR h) (show p < q by omega) hk
      rw [if_neg (nI_ge hp (by omega)), inB_t (by omega) (by omega), inB_t (by omega) (by omega), gd_t, gd_t, cl_n (by omega), cl_n (by omega), (vSP h).2.2.1 p (by omega), (vSP h).2.2.1 k hk, nI_1]
      by_cases g : ky (dm σ p) = ky (dm σ k)
      · rw [if_pos (cmp_eq.mpr g), if_pos (hl.mp g), nI_1]
      · rw [if_neg (fun w => g (cmp_eq.mp w)), if_neg (fun w => g (hl.mpr w)), ad0, nI_1]; rfl
    refine ⟨c + if lk σ p k = true then 1 else 0, st, ?_, ?_⟩
    · split <;> omega
    · by_cases e : lk σ p k = true
      · rw [if_pos e]
        constructor
        · intro w; omega
        · intro w; rw [w p (by omega)] at e; cases e
      · rw [if_neg e]
        constructor
        · intro w j hj
          rcases Nat.lt_or_eq_of_le (Nat.le_of_lt_succ hj) with w1 | w1
          · exact g2.mp w j w1
          · rw [w1]; simpa using e
        · intro w; exact g2.mpr (fun j hj => w j (by omega))
  · rintro m c ⟨g1, g2⟩
    show j_differentDimensions_51_H17 k4 (j_differentDimensions_51_L17 k4 m) v (nI k) (nI c) (nI k) σ = _
    unfold j_differentDimensions_51_H17 j_differentDimensions_51_b64
    rw [if_pos (nI_le (by omega) (by omega)), nI_1]
    by_cases e : c = 0
    · rw [if_pos (by rw [e]; rfl), if_pos (nw_iff.mpr (g2.mp e))]
    · rw [if_neg (show ¬ nI c = 0 from fun w => e ((nI_eq (b := 0) (by omega) (by omega)).mp w)), if_neg (fun w => e (g2.mpr (nw_iff.mp w)))]
theorem jdiff {n q ver : Nat} {σ : Sg} (h : VV n q ver σ) : j_differentDimensions_51 σ = some (nI (dfn σ q), σ) := by
  have hq := vq h
  unfold j_differentDimensions_51
  refine loopE (L := fun m p (_ : Unit) => j_differentDimensions_51_L4 m (nI (dfn σ p)) (nI p) σ) (N := q) (s := ()) (P := fun _ _ => True) (Q := fun r => r = some (nI (dfn σ q), σ)) ?_ ?_ (fu_lt (by omega)) trivial
  · rintro m p _ hp _
    refine ⟨(), ?_, trivial⟩
    show j_differentDimensions_51_H4 (j_differentDimensions_51_L4 m) _ (nI p) σ = _
    unfold j_differentDimensions_51_H4
    rw [(vSP h).1, if_neg (nI_ge hp (by omega)), jdiff_in h hp]
    show j_differentDimensions_51_L4 m _ _ σ = j_differentDimensions_51_L4 m (nI (dfn σ p + if nwB σ p = true then 1 else 0)) _ σ
    split
    · rw [nI_1]
    · rw [ad0]; rfl
  · rintro m _ _
    show j_differentDimensions_51_H4 (j_differentDimensions_51_L4 m) _ (nI q) σ = _
    unfold j_differentDimensions_51_H4
    rw [(vSP h).1, if_pos (nI_le (by omega) (by omega))]
theorem tw_nw {σ : Sg} {q k : Nat} (hq : q ≤ 8) (hk : k < q) : (nwB σ k = true ∧ (tw σ q k = -9 ∨ ∃ p, p < 8 ∧ k < p ∧ tw σ q k = nI p)) ∨ (¬ nwB σ k = true ∧ ∃ p, p < k ∧ tw σ q k = nI p) := by
  unfold tw
  cases hf : ff (twB σ k) q 0 with
  | none =>
    have := ff_none hf
    refine Or.inl ⟨nw_iff.mpr (fun j hj => ?_), Or.inl rfl⟩
    have w := this j (by omega) (by omega)
    unfold twB at w
    simp at w
    exact w (by omega)
  | some x =>
    obtain ⟨h1, h2, h3, h4⟩ := ff_some hf
    unfold twB at h3
    simp at h3
    by_cases g : x < k
    · exact Or.inr ⟨fun w => absurd h3.2 (by rw [nw_iff.mp w x g]; decide), x, g, rfl⟩
    · refine Or.inl ⟨nw_iff.mpr (fun j hj => ?_), Or.inr ⟨x, by omega, by omega, rfl⟩⟩
      have w := h4 j (by omega) (by omega)
      unfold twB at w
      simp at w
      exact w (by omega)
theorem mdiff {n q ver : Nat} {σ : Sg} (h : VV n q ver σ) : m_different_117 σ = some (nI (dfn σ q), σ) := by
  have hq := vq h
  unfold m_different_117
  refine loopE (L := fun m p (_ : Unit) => m_different_117_L4 m (nI (dfn σ p)) (nI p) σ) (N := q) (s := ()) (P := fun _ _ => True) (Q := fun r => r = some (nI (dfn σ q), σ)) ?_ ?_ (fu_lt (by omega)) trivial
  · rintro m p _ hp _
    refine ⟨(), ?_, trivial⟩
    show m_different_117_H4 (m_different_117_L4 m) _ (nI p) σ = _
    unfold m_different_117_H4 m_different_117_b32 m_different_117_b37
    rw [v0 h, if_neg (nI_ge hp (by omega)), mtwin hq (v0 h) hp, bd_s]
    show _ = m_different_117_L4 m (nI (dfn σ p + if nwB σ p = true then 1 else 0)) _ σ
    rcases tw_nw (σ := σ) hq hp with ⟨e, g | ⟨x, hx, hxp, g⟩⟩ | ⟨e, x, hx, g⟩
    · rw [g, if_pos rfl, if_pos e, nI_1, nI_1]
    · rw [g, if_neg (fun w => by have := (eq_l (a := -9) (b := x) (by omega)).mp w.symm; rw [show (-9 : Int32).toInt = -9 by decide] at this; omega), if_neg (nI_ge hxp (by omega)), if_pos e, nI_1, nI_1]
    · rw [g, if_neg (fun w => by have := (eq_l (a := -9) (b := x) (by omega)).mp w.symm; rw [show (-9 : Int32).toInt = -9 by decide] at this; omega), if_pos (nI_le (by omega) (by omega)), if_neg e, ad0, nI_1]; rfl
  · rintro m _ _
    show m_different_117_H4 (m_different_117_L4 m) _ (nI q) σ = _
    unfold m_different_117_H4
    rw [v0 h, if_pos (nI_le (by omega) (by omega))]
theorem op_rank {n q ver : Nat} {σ : Sg} (hn : n < 512) (h : VV n q ver σ) (a : Int32) : ∃ r σ1 σ2, j_rank_0 a σ = some (r, σ1) ∧ m_rank_117 a σ1 = some (r, σ2) ∧ VI (n + 1) σ2 := by
  have hq := vq h
  unfold j_rank_0 j_rank_0_b73 m_rank_117
  by_cases b0 : a = 0
  · obtain ⟨σ2, w1, w2⟩ := mfirm (v0 h) hq (vA h)
    refine ⟨nI (cntS (PV σ q) q), σ, σ2, ?_, ?_, fin_kp hn h (Kp_S w2 (by decide))⟩
    · rw [if_pos b0, (vEL h).2.1, RK_eq]
    · rw [if_pos b0, w1, bd_s, mbits (PV_lt σ q) hq, bd_s]
  · by_cases b1 : a = 1
    · obtain ⟨σ2, w1, w2⟩ := mloose (v0 h) hq (vA h)
      refine ⟨nI (cntS (LZ σ q) q), σ, σ2, ?_, ?_, fin_kp hn h (Kp_S w2 (by decide))⟩
      · rw [if_neg b0, if_pos b1, grp_n h]
      · rw [if_neg b0, if_pos b1, w1, bd_s, mbits (LZ_lt σ q) hq, bd_s]
    · by_cases b2 : a = 2
      · obtain ⟨σ2, w1, w2⟩ := mloose (v0 h) hq (vA h)
        refine ⟨nI (LZ σ q), σ, σ2, ?_, ?_, fin_kp hn h (Kp_S w2 (by decide))⟩
        · rw [if_neg b0, if_neg b1, if_pos b2, jloose_v h, bd_s]
        · rw [if_neg b0, if_neg b1, if_pos b2, w1, bd_s]
      · by_cases b3 : a = 3
        · refine ⟨nI (dfn σ q), σ, σ, ?_, ?_, fin_kp hn h (Kp_refl _)⟩
          · rw [if_neg b0, if_neg b1, if_neg b2, if_pos b3, jdiff h, bd_s]
          · rw [if_neg b0, if_neg b1, if_neg b2, if_pos b3, mdiff h, bd_s]
        · refine ⟨-2, rj 2 σ, rm 2 (rj 2 σ), ?_, ?_, fin_ref hn (by omega) (by omega) h (Kp_refl _) (Kp_refl _)⟩
          · rw [if_neg b0, if_neg b1, if_neg b2, if_neg b3, jr2, bd_s]
          · rw [if_neg b0, if_neg b1, if_neg b2, if_neg b3, mr2, bd_s]
