/-! ===== PURE: are they scaled ===== -/
theorem sub_iff {S T : Nat} (hS : S < 256) : (nI S &&& (nI T ^^^ (-1)) = 0) ↔ ∀ p, p < 8 → S.testBit p = true → T.testBit p = true := by
  have key : ∀ i, i < 32 → ((nI S &&& (nI T ^^^ (-1))).toBitVec).getLsbD i = (S.testBit i && !T.testBit i) := by
    intro i hi
    show (BitVec.ofNat 32 S &&& (BitVec.ofNat 32 T ^^^ BitVec.allOnes 32)).getLsbD i = _
    rw [BitVec.getLsbD_and, BitVec.getLsbD_xor, BitVec.getLsbD_ofNat, BitVec.getLsbD_ofNat, BitVec.getLsbD_allOnes]
    simp [hi]
  constructor
  · intro e p hp hb
    have := key p (by omega)
    rw [e, hb] at this
    simp at this
    exact this
  · intro h
    apply Int32.toBitVec_inj.mp
    apply BitVec.eq_of_getLsbD_eq
    intro i hi
    rw [key i hi]
    show _ = (0 : BitVec 32).getLsbD i
    have : (0 : BitVec 32).getLsbD i = false := by simp
    rw [this]
    by_cases g : S.testBit i = true
    · by_cases g8 : i < 8
      · rw [h i g8 g]; simp
      · have := pw_le (show 8 ≤ i by omega)
        rw [Nat.testBit_lt_two_pow (by omega)] at g; cases g
    · simp [g]
theorem pw_bit (k x : Nat) : (2 ^ k).testBit x = decide (k = x) := Nat.testBit_two_pow
theorem scn_bit {σ : Sg} : ∀ {k x : Nat}, (scn σ k).testBit x = (decide (x < k) && hsB σ x)
  | 0, x => by
    show (0 : Nat).testBit x = _
    simp
  | k + 1, x => by
    have ih := scn_bit (σ := σ) (k := k) (x := x)
    have hl := scn_lt σ k
    show (scn σ k + (if σ.1 118 (49 + k) = 0 then 0 else 2 ^ k)).testBit x = _
    by_cases g : σ.1 118 (49 + k) = 0
    · rw [if_pos g, Nat.add_zero, ih]
      by_cases e : x = k
      · subst e
        have : hsB σ x = false := by unfold hsB; simp [g]
        simp [this]
      · have : decide (x < k + 1) = decide (x < k) := by
          rw [decide_eq_decide]; omega
        rw [this]
    · rw [if_neg g, Nat.add_comm]
      by_cases e : x = k
      · subst e
        rw [Nat.testBit_two_pow_add_eq, ih]
        have : hsB σ x = true := hs_iff.mpr g
        simp [this]
      · by_cases w : x < k
        · rw [Nat.testBit_two_pow_add_gt w, ih]
          have : x < k + 1 := by omega
          simp [w, this]
        · have h5 := pw_le (show k + 1 ≤ x by omega)
          have h6 : 2 ^ (k + 1) = 2 ^ k + 2 ^ k := by rw [Nat.pow_succ]; omega
          rw [Nat.testBit_lt_two_pow (by omega)]
          have : ¬ x < k + 1 := by omega
          simp [this]
theorem jhave {n q ver S : Nat} {σ : Sg} (h : VV n q ver σ) (hS : S < 2 ^ q) : (j_haveScales_1 (nI S) σ = some (1, σ) ∧ ∀ p, p < q → S.testBit p = true → hsB σ p = true) ∨ (j_haveScales_1 (nI S) σ = some (0, σ) ∧ ¬ ∀ p, p < q → S.testBit p = true → hsB σ p = true) := by
  have hq := vq h
  have h2 := pw_256 hq
  have hi := sub_iff (S := S) (T := scn σ q) (by omega)
  unfold j_haveScales_1 j_haveScales_1_b16
  rw [jss h, bd_s]
  by_cases g : nI S &&& (nI (scn σ q) ^^^ (-1)) = 0
  · rw [if_pos g]
    refine Or.inl ⟨rfl, fun p hp hb => ?_⟩
    have := hi.mp g p (by omega) hb
    rw [scn_bit] at this
    simp at this
    exact this.2
  · rw [if_neg g]
    refine Or.inr ⟨rfl, fun w => g (hi.mpr (fun p hp hb => ?_))⟩
    have hpq : p < q := by
      refine Classical.byContradiction (fun e => ?_)
      exact lt_nb hS p (by omega) hb
    rw [scn_bit]
    simp [hpq, w p hpq hb]
/-- the set of what is not 0 -/
def stn (f : Nat → Int32) : Nat → Nat
  | 0 => 0
  | k + 1 => stn f k + (if f k = 0 then 0 else 2 ^ k)
theorem stn_lt (f : Nat → Int32) : ∀ k, stn f k < 2 ^ k
  | 0 => by show 0 < 1; omega
  | k + 1 => by
    have := stn_lt f k
    have h2 : 2 ^ (k + 1) = 2 ^ k + 2 ^ k := by rw [Nat.pow_succ]; omega
    show stn f k + _ < _
    split <;> omega
theorem stn_bit {f : Nat → Int32} : ∀ {k x : Nat}, (stn f k).testBit x = (decide (x < k) && !(decide (f x = 0)))
  | 0, x => by
    show (0 : Nat).testBit x = _
    simp
  | k + 1, x => by
    have ih := stn_bit (f := f) (k := k) (x := x)
    have hl := stn_lt f k
    show (stn f k + (if f k = 0 then 0 else 2 ^ k)).testBit x = _
    by_cases g : f k = 0
    · rw [if_pos g, Nat.add_zero, ih]
      by_cases e : x = k
      · subst e; simp [g]
      · have : decide (x < k + 1) = decide (x < k) := by
          rw [decide_eq_decide]; omega
        rw [this]
    · rw [if_neg g, Nat.add_comm]
      by_cases e : x = k
      · subst e
        rw [Nat.testBit_two_pow_add_eq, ih]
        simp [g]
      · by_cases w : x < k
        · rw [Nat.testBit_two_pow_add_gt w, ih]
          have : x < k + 1 := by omega
          simp [w, this]
        · have h5 := pw_le (show k + 1 ≤ x by omega)
          have h6 : 2 ^ (k + 1) = 2 ^ k + 2 ^ k := by rw [Nat.pow_succ]; omega
          rw [Nat.testBit_lt_two_pow (by omega)]
          have : ¬ x < k + 1 := by omega
          simp [this]
theorem jseto (σ : Sg) : j_setOf_113 σ = some (nI (stn (σ.1 113) 8), σ) := by
  unfold j_setOf_113
  refine loopE (L := fun m p (_ : Unit) => j_setOf_113_L4 m (nI (stn (σ.1 113) p)) (nI p) σ) (N := 8) (s := ()) (P := fun _ _ => True) (Q := fun r => r = some (nI (stn (σ.1 113) 8), σ)) ?_ ?_ (by decide) trivial
  · rintro m p _ hp _
    refine ⟨(), ?_, trivial⟩
    have hl := stn_lt (σ.1 113) p
    have hp7 := pw_le (show p ≤ 7 by omega)
    show j_setOf_113_H4 (j_setOf_113_L4 m) _ (nI p) σ = j_setOf_113_L4 m (nI (stn (σ.1 113) p + (if σ.1 113 p = 0 then 0 else 2 ^ p))) (nI (p + 1)) σ
    unfold j_setOf_113_H4 j_setOf_113_b24
    rw [if_neg (show ¬ (8 : Int32) ≤ nI p from nI_ge (b := 8) hp (by decide)), inB_t hp (by omega), gd_t, cl_n (by omega), or_eq p (by omega) _ (by omega) hl, or0, nI_1]
    by_cases e : σ.1 113 p = 0
    · rw [if_pos e, if_pos e]; rfl
    · rw [if_neg e, if_neg e]
  · rintro m _ _
    show j_setOf_113_H4 (j_setOf_113_L4 m) _ (nI 8) σ = _
    unfold j_setOf_113_H4
    rw [if_pos (show (8 : Int32) ≤ nI 8 by decide)]
/-- the class: have all of a relation SCALES -/
theorem jhave_r {n q ver : Nat} {R : Nat → Int} {σ : Sg} (h : VV n q ver σ) (hR : ∀ p, p < q → (σ.1 113 p).toInt = R p) (hz : ∀ p, q ≤ p → p < 8 → σ.1 113 p = 0) : (j_haveScales_1 (nI (stn (σ.1 113) 8)) σ = some (1, σ) ∧ ∀ p, p < q → R p ≠ 0 → hsB σ p = true) ∨ (j_haveScales_1 (nI (stn (σ.1 113) 8)) σ = some (0, σ) ∧ ¬ ∀ p, p < q → R p ≠ 0 → hsB σ p = true) := by
  have hq := vq h
  have hlt : stn (σ.1 113) 8 < 2 ^ q := by
    refine Classical.byContradiction (fun w => ?_)
    obtain ⟨i, hi, hb⟩ := Nat.exists_ge_and_testBit_of_ge_two_pow (Nat.not_lt.mp w)
    rw [stn_bit] at hb
    simp at hb
    exact hb.2 (hz i hi hb.1)
  have hbit : ∀ p, p < q → ((stn (σ.1 113) 8).testBit p = true ↔ R p ≠ 0) := by
    intro p hp
    rw [stn_bit]
    have : p < 8 := by omega
    simp [this]
    rw [← hR p hp]
    constructor
    · intro e w
      exact e (Int32.toInt_inj.mp (w.trans (show (0 : Int) = (0 : Int32).toInt by decide)))
    · intro e w
      rw [w] at e; exact e (by decide)
  rcases jhave h hlt with ⟨w, g⟩ | ⟨w, g⟩
  · exact Or.inl ⟨w, fun p hp hr => g p hp ((hbit p hp).mpr hr)⟩
  · exact Or.inr ⟨w, fun e => g (fun p hp hb => e p hp ((hbit p hp).mp hb))⟩
theorem mares {n q ver : Nat} {R : Nat → Int} {σ0 σ : Sg} (h : VV n q ver σ0) (h8 : σ.1 118 = σ0.1 118) (hR : ∀ p, p < q → (σ.2 124 p).toInt = R p) : (m_areScaled_117 σ = some (1, σ) ∧ ∀ p, p < q → R p ≠ 0 → hsB σ0 p = true) ∨ (m_areScaled_117 σ = some (0, σ) ∧ ¬ ∀ p, p < q → R p ≠ 0 → hsB σ0 p = true) := by
  have hq := vq h
  have main : m_areScaled_117 σ = some (cj (fun p => decide (R p = 0) || hsB σ0 p) q, σ) := by
    unfold m_areScaled_117
    refine loopE (L := fun m p (s : Int32) => m_areScaled_117_L4 m s (nI p) σ) (N := q) (P := fun p s => s = cj (fun p => decide (R p = 0) || hsB σ0 p) p) (Q := fun r => r = some (cj (fun p => decide (R p = 0) || hsB σ0 p) q, σ)) ?_ ?_ (fu_lt (by omega)) rfl
    · rintro m p s hp rfl
      refine ⟨_, ?_, rfl⟩
      show m_areScaled_117_H4 (m_areScaled_117_L4 m) _ (nI p) σ = m_areScaled_117_L4 m (_ &&& (if (decide (R p = 0) || hsB σ0 p) = true then (1 : Int32) else 0)) (nI (p + 1)) σ
      unfold m_areScaled_117_H4 m_areScaled_117_b38 m_areScaled_117_b43
      rw [h8, v0 h, if_neg (nI_ge hp (by omega)), inB_t (by omega) (by omega), gd_t, cl_n (by omega), i49, inB_t (by omega) (by omega), gd_t, cl_n (by omega), nI_1]
      by_cases g : R p = 0
      · rw [if_pos (cmp_eq.mpr (L_eq (by rw [hR p hp, g]; rfl))), if_pos (by simp [g])]
      · rw [if_neg (fun w => g (by rw [← hR p hp, cmp_eq.mp w]; rfl))]
        by_cases g2 : hsB σ0 p = true
        · obtain ⟨s1, s2, s3, s4, s5, s6, s7, s8⟩ := sc_ok h hp g2
          rw [s3, if_neg (show ¬ nI (scA σ0 p) ≤ 0 from nI_ge (b := scA σ0 p) (a := 0) (by omega) (by omega)), if_pos (by simp [g2])]
        · have z : σ0.1 118 (49 + p) = 0 := Classical.byContradiction (fun w => g2 (hs_iff.mpr w))
          rw [z, if_pos (by decide), if_neg (by simp [g, g2])]
    · rintro m s rfl
      show m_areScaled_117_H4 (m_areScaled_117_L4 m) _ (nI q) σ = _
      unfold m_areScaled_117_H4
      rw [h8, v0 h, if_pos (nI_le (by omega) (by omega)), cj_nb, gd_t]
  rw [main]
  rcases cj_01 (fun p => decide (R p = 0) || hsB σ0 p) q with ⟨e, g⟩ | ⟨e, g⟩
  · refine Or.inl ⟨by rw [e], fun p hp hr => ?_⟩
    have := g p hp
    simp [hr] at this; exact this
  · refine Or.inr ⟨by rw [e], fun w => g (fun p hp => ?_)⟩
    by_cases hr : R p = 0
    · simp [hr]
    · simp [w p hp hr]
theorem mscal {n q ver S : Nat} {σ τ : Sg} (h : VV n q ver σ) (h8 : τ.1 118 = σ.1 118) (hS : S < 2 ^ q) : ∃ τ', FR [123, 124] τ τ' ∧ ((m_isScaled_117 (nI S) τ = some (1, τ') ∧ chB σ q S = true ∧ ∀ p, p < q → S.testBit p = true → hsB σ p = true) ∨ (m_isScaled_117 (nI S) τ = some (0, τ') ∧ ¬ (chB σ q S = true ∧ ∀ p, p < q → S.testBit p = true → hsB σ p = true))) := by
  have hq := vq h
  have h2 := pw_256 hq
  obtain ⟨τ', w1, w2⟩ := cho_at (τ := τ) h h8 hS
  have h8' : τ'.1 118 = σ.1 118 := (FR_i w2 (by decide)).trans h8
  refine ⟨τ', w2, ?_⟩
  unfold m_isScaled_117
  rw [w1, bd_s]
  by_cases g : chB σ q S = true
  · rw [if_pos g]
    have st : ∀ m p, p < q → m_isScaled_117_L8 (m + 1) (nI S) 1 (nI p) τ' = if S.testBit p = true ∧ hsB σ p = false then m_isScaled_117_L8 m (nI S) 0 (nI (p + 1)) τ' else m_isScaled_117_L8 m (nI S) 1 (nI (p + 1)) τ' := by
      intro m p hp
      show m_isScaled_117_H8 (m_isScaled_117_L8 m) (nI S) 1 (nI p) τ' = _
      unfold m_isScaled_117_H8 m_isScaled_117_b42 m_isScaled_117_b47
      rw [h8', v0 h, if_neg (nI_ge hp (by omega)), if_neg (show ¬ (1 : Int32) = 0 by decide), m_has_eq (by omega) (by omega), bd_s, i49, inB_t (by omega) (by omega), gd_t, cl_n (by omega), h8', nI_1]
      by_cases hb : S.testBit p = true
      · rw [if_pos hb, if_neg (by decide)]
        by_cases hh : hsB σ p = true
        · obtain ⟨s1, s2, s3, s4, s5, s6, s7, s8⟩ := sc_ok h hp hh
          rw [s3, if_neg (show ¬ nI (scA σ p) ≤ 0 from nI_ge (b := scA σ p) (a := 0) (by omega) (by omega)), if_neg (fun w => by rw [hh] at w; cases w.2)]
        · have z : σ.1 118 (49 + p) = 0 := Classical.byContradiction (fun w => hh (hs_iff.mpr w))
          rw [z, if_pos (by decide), if_pos ⟨hb, by simpa using hh⟩]
      · rw [if_neg hb, if_pos rfl, if_neg (fun w => hb w.1)]
    have en0 : ∀ m p, p ≤ q → m_isScaled_117_L8 (m + 1) (nI S) 0 (nI p) τ' = some (0, τ') := by
      intro m p hp
      show m_isScaled_117_H8 (m_isScaled_117_L8 m) (nI S) 0 (nI p) τ' = _
      unfold m_isScaled_117_H8 m_isScaled_117_b54
      rw [if_pos rfl, show nbB 0 = true by decide, gd_t]
      split <;> rfl
    by_cases gs : ∀ p, p < q → S.testBit p = true → hsB σ p = true
    · refine Or.inl ⟨?_, g, gs⟩
      refine loopE (L := fun m p (_ : Unit) => m_isScaled_117_L8 m (nI S) 1 (nI p) τ') (N := q) (s := ()) (P := fun _ _ => True) (Q := fun r => r = some (1, τ')) ?_ ?_ (fu_lt (by omega)) trivial
      · rintro m p _ hp _
        refine ⟨(), ?_, trivial⟩
        rw [st m p hp, if_neg (fun w => by rw [gs p hp w.1] at w; cases w.2)]
      · rintro m _ _
        show m_isScaled_117_H8 (m_isScaled_117_L8 m) (nI S) 1 (nI q) τ' = _
        unfold m_isScaled_117_H8 m_isScaled_117_b54
        rw [h8', v0 h, if_pos (nI_le (by omega) (by omega))]; rfl
    · refine Or.inr ⟨?_, fun w => gs w.2⟩
      simp only [Classical.not_forall] at gs
      obtain ⟨y, hy, hyb, hyn⟩ := gs
      refine loopQ (fun m p (s : Int32) => m_isScaled_117_L8 m (nI S) s (nI p) τ') q (fun p s => (s = 1 ∧ p ≤ y) ∨ s = 0) (fun r => r = some (0, τ')) ?_ ?_ q fu 0 1 (by omega) (fu_lt (by omega)) (Or.inl ⟨rfl, Nat.zero_le _⟩)
      · rintro m p s hp (⟨rfl, hle⟩ | rfl)
        · rw [st m p hp]
          by_cases e : S.testBit p = true ∧ hsB σ p = false
          · rw [if_pos e]
            exact Or.inl ⟨0, rfl, Or.inr rfl⟩
          · rw [if_neg e]
            refine Or.inl ⟨1, rfl, Or.inl ⟨rfl, ?_⟩⟩
            have : p ≠ y := fun w => e (by rw [w]; exact ⟨hyb, by simpa using hyn⟩)
            omega
        · exact Or.inr (en0 m p (by omega))
      · rintro m s (⟨rfl, hle⟩ | rfl)
        · omega
        · exact en0 m q (Nat.le_refl _)
  · rw [if_neg g]
    refine Or.inr ⟨?_, fun w => g w.1⟩
    show m_isScaled_117_H8 (m_isScaled_117_L8 19999) (nI S) 0 0 τ' = _
    unfold m_isScaled_117_H8 m_isScaled_117_b54
    rw [if_pos rfl, show nbB 0 = true by decide, gd_t]
    split <;> rfl
