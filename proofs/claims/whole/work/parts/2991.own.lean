/-! ===== PURE: which quantity a group has; groups ===== -/
/-- the i-th of a set, from k on -/
def nth (S : Nat) : Nat → Nat → Nat → Option Nat
  | 0, _, _ => none
  | d + 1, k, i => if S.testBit k = true then (if i = 0 then some k else nth S d (k + 1) (i - 1)) else nth S d (k + 1) i
theorem nth_in {S : Nat} : ∀ {d k i x : Nat}, nth S d k i = some x → k ≤ x ∧ x < k + d ∧ S.testBit x = true
  | 0, k, i, x, h => by cases h
  | d + 1, k, i, x, h => by
    unfold nth at h
    by_cases hb : S.testBit k = true
    · rw [if_pos hb] at h
      by_cases hi : i = 0
      · rw [if_pos hi] at h
        obtain rfl : k = x := by simpa using h
        exact ⟨by omega, by omega, hb⟩
      · rw [if_neg hi] at h
        have := nth_in h
        exact ⟨by omega, by omega, this.2.2⟩
    · rw [if_neg hb] at h
      have := nth_in h
      exact ⟨by omega, by omega, this.2.2⟩
theorem nth_some {S : Nat} : ∀ {d k i : Nat}, cntS S k + i < cntS S (k + d) → ∃ x, nth S d k i = some x
  | 0, k, i, h => by rw [Nat.add_zero] at h; omega
  | d + 1, k, i, h => by
    unfold nth
    rw [show k + (d + 1) = k + 1 + d by omega] at h
    by_cases hb : S.testBit k = true
    · rw [if_pos hb]
      by_cases hi : i = 0
      · rw [if_pos hi]; exact ⟨k, rfl⟩
      · rw [if_neg hi]
        exact nth_some (by rw [cnt_t hb]; omega)
    · rw [if_neg hb]
      exact nth_some (by rw [cnt_f hb]; exact h)
theorem nth_none {S : Nat} : ∀ {d k i : Nat}, cntS S (k + d) ≤ cntS S k + i → nth S d k i = none
  | 0, k, i, h => rfl
  | d + 1, k, i, h => by
    unfold nth
    rw [show k + (d + 1) = k + 1 + d by omega] at h
    by_cases hb : S.testBit k = true
    · rw [if_pos hb]
      by_cases hi : i = 0
      · have := cnt_up S (k + 1) d
        rw [cnt_t hb] at this; omega
      · rw [if_neg hi]
        exact nth_none (by rw [cnt_t hb]; omega)
    · rw [if_neg hb]
      exact nth_none (by rw [cnt_f hb]; exact h)
theorem pm1 (v : Nat) : nI (v + 1) + (-1) = nI v := by
  rw [← nI_1]; generalize nI v = x; grind
theorem jla {q i x : Nat} {σ : Sg} (h : SP q σ) (hq : q ≤ 8) (hx : nth (LZ σ q) q 0 i = some x) (hi : i < 9) : j_looseAt_51 (nI i) σ = some (nI x, σ) := by
  unfold j_looseAt_51
  rw [jloose h hq, bd_s]
  have hl : LZ σ q < 256 := by have := LZ_lt σ q; have := pw_256 hq; omega
  refine loopQ (fun k p (v : Nat) => j_looseAt_51_L10 k (nI (LZ σ q)) (nI v) (nI p) σ) q (fun p v => v < 9 ∧ nth (LZ σ q) (q - p) p v = some x) (fun r => r = some (nI x, σ)) ?_ ?_ q fu 0 i (by omega) (fu_lt (by omega)) ⟨hi, hx⟩
  · rintro k p v hp ⟨hv, g⟩
    obtain ⟨d, hd⟩ : ∃ d, q - p = d + 1 := ⟨q - p - 1, by omega⟩
    have hd' : q - (p + 1) = d := by omega
    rw [hd] at g
    unfold nth at g
    have st : j_looseAt_51_L10 (k + 1) (nI (LZ σ q)) (nI v) (nI p) σ = if (LZ σ q).testBit p = true then (if v = 0 then some (nI p, σ) else j_looseAt_51_L10 k (nI (LZ σ q)) (nI (v - 1)) (nI (p + 1)) σ) else j_looseAt_51_L10 k (nI (LZ σ q)) (nI v) (nI (p + 1)) σ := by
      show j_looseAt_51_H10 (j_looseAt_51_L10 k) _ (nI v) (nI p) σ = _
      unfold j_looseAt_51_H10 j_looseAt_51_b39
      rw [h.1, if_neg (nI_ge hp (by omega)), j_bit_eq hl (by omega), bd_s, nI_1]
      by_cases hb : (LZ σ q).testBit p = true
      · rw [if_pos hb, if_pos hb, if_pos rfl]
        rcases Nat.eq_zero_or_pos v with w | w
        · subst w; rw [if_pos (show nI 0 = 0 from rfl), if_pos rfl]
        · obtain ⟨m, rfl⟩ : ∃ m, v = m + 1 := ⟨v - 1, by omega⟩
          rw [if_neg (fun e => by have := (nI_eq (a := m + 1) (b := 0) (by omega) (by omega)).mp e; omega), if_neg (by omega), pm1]; rfl
      · rw [if_neg hb, if_neg hb, if_neg (by decide)]
    try dsimp only
    rw [st, hd']
    by_cases hb : (LZ σ q).testBit p = true
    · rw [if_pos hb] at g ⊢
      by_cases h0 : v = 0
      · rw [if_pos h0] at g ⊢
        obtain rfl : p = x := by simpa using g
        exact Or.inr rfl
      · rw [if_neg h0] at g ⊢
        exact Or.inl ⟨v - 1, rfl, by omega, g⟩
    · rw [if_neg hb] at g ⊢
      exact Or.inl ⟨v, rfl, hv, g⟩
  · rintro k v ⟨_, g⟩
    rw [show q - q = 0 by omega] at g
    cases g
theorem mown_in {q i x : Nat} {σ : Sg} (h0 : σ.1 118 0 = nI q) (hq : q ≤ 8) (hA : ∀ r c, r < 5 → c < q → (mA σ r c).toInt = mZ σ r c ∧ (mZ σ r c).natAbs ≤ 20) (hx : nth (LZ σ q) q 0 i = some x) (hi : i < 9) : ∃ σ', m_ownOf_117 (nI i) σ = some (nI x, σ') ∧ FR [123, 124] σ σ' := by
  obtain ⟨σ', w1, w2⟩ := mloose h0 hq hA
  refine ⟨σ', ?_, w2⟩
  unfold m_ownOf_117
  rw [w1, bd_s]
  have e0 : σ'.1 118 0 = nI q := by rw [FR_i w2 (by decide)]; exact h0
  have hl : LZ σ q < 256 := by have := LZ_lt σ q; have := pw_256 hq; omega
  refine loopQ (fun k p (v : Nat) => m_ownOf_117_L10 k (nI i) (nI v) (nI (LZ σ q)) (nI p) σ') q (fun p v => v < 9 ∧ nth (LZ σ q) (q - p) p v = some x) (fun r => r = some (nI x, σ')) ?_ ?_ q fu 0 i (by omega) (fu_lt (by omega)) ⟨hi, hx⟩
  · rintro k p v hp ⟨hv, g⟩
    obtain ⟨d, hd⟩ : ∃ d, q - p = d + 1 := ⟨q - p - 1, by omega⟩
    have hd' : q - (p + 1) = d := by omega
    rw [hd] at g
    unfold nth at g
    have st : m_ownOf_117_L10 (k + 1) (nI i) (nI v) (nI (LZ σ q)) (nI p) σ' = if (LZ σ q).testBit p = true then (if v = 0 then some (nI p, σ') else m_ownOf_117_L10 k (nI i) (nI (v - 1)) (nI (LZ σ q)) (nI (p + 1)) σ') else m_ownOf_117_L10 k (nI i) (nI v) (nI (LZ σ q)) (nI (p + 1)) σ' := by
      show m_ownOf_117_H10 (m_ownOf_117_L10 k) (nI i) (nI v) _ (nI p) σ' = _
      unfold m_ownOf_117_H10 m_ownOf_117_b44
      rw [e0, if_neg (nI_ge hp (by omega)), if_neg (nI_pos (by omega)), m_has_eq hl (by omega), bd_s, nI_1]
      by_cases hb : (LZ σ q).testBit p = true
      · rw [if_pos hb, if_pos hb, if_neg (by decide)]
        rcases Nat.eq_zero_or_pos v with w | w
        · subst w; rw [if_pos (show nI 0 = 0 from rfl), if_pos rfl]
        · obtain ⟨m, rfl⟩ : ∃ m, v = m + 1 := ⟨v - 1, by omega⟩
          rw [if_neg (fun e => by have := (nI_eq (a := m + 1) (b := 0) (by omega) (by omega)).mp e; omega), if_neg (by omega), pm1]; rfl
      · rw [if_neg hb, if_neg hb, if_pos rfl]
    try dsimp only
    rw [st, hd']
    by_cases hb : (LZ σ q).testBit p = true
    · rw [if_pos hb] at g ⊢
      by_cases h0 : v = 0
      · rw [if_pos h0] at g ⊢
        obtain rfl : p = x := by simpa using g
        exact Or.inr rfl
      · rw [if_neg h0] at g ⊢
        exact Or.inl ⟨v - 1, rfl, by omega, g⟩
    · rw [if_neg hb] at g ⊢
      exact Or.inl ⟨v, rfl, hv, g⟩
  · rintro k v ⟨_, g⟩
    rw [show q - q = 0 by omega] at g
    cases g
theorem mown_out {q : Nat} {a : Int32} {σ : Sg} (h0 : σ.1 118 0 = nI q) (hq : q ≤ 8) (hA : ∀ r c, r < 5 → c < q → (mA σ r c).toInt = mZ σ r c ∧ (mZ σ r c).natAbs ≤ 20) (ho : out a (cntS (LZ σ q) q)) : ∃ σ', m_ownOf_117 a σ = some (-1, σ') ∧ FR [123, 124] σ σ' := by
  obtain ⟨σ', w1, w2⟩ := mloose h0 hq hA
  refine ⟨σ', ?_, w2⟩
  unfold m_ownOf_117
  rw [w1, bd_s]
  have e0 : σ'.1 118 0 = nI q := by rw [FR_i w2 (by decide)]; exact h0
  have hl : LZ σ q < 256 := by have := LZ_lt σ q; have := pw_256 hq; omega
  by_cases hneg : a < 0
  · show m_ownOf_117_H10 (m_ownOf_117_L10 19999) a a _ 0 σ' = _
    unfold m_ownOf_117_H10 m_ownOf_117_b50
    rw [if_pos hneg]
    split <;> rfl
  · have hcn := cnt_le (LZ σ q) q
    have hge : (cntS (LZ σ q) q : Int) ≤ a.toInt := by
      rcases out_lt (by omega) ho with w | w
      · exact absurd (Int32.lt_iff_toInt_lt.mpr (by simpa using w)) hneg
      · exact w
    have hra := I_rng a
    refine loopQ (fun k p (v : Int32) => m_ownOf_117_L10 k a v (nI (LZ σ q)) (nI p) σ') q (fun p v => v.toInt = a.toInt - cntS (LZ σ q) p) (fun r => r = some (-1, σ')) ?_ ?_ q fu 0 a (by omega) (fu_lt (by omega)) (by show _ = _ - ((0 : Nat) : Int); omega)
    · rintro k p v hp g
      refine Or.inl ⟨if (LZ σ q).testBit p = true then v + (-1) else v, ?_, ?_⟩
      · show m_ownOf_117_H10 (m_ownOf_117_L10 k) a v _ (nI p) σ' = _
        unfold m_ownOf_117_H10 m_ownOf_117_b44
        rw [e0, if_neg (nI_ge hp (by omega)), if_neg hneg, m_has_eq hl (by omega), bd_s, nI_1]
        by_cases hb : (LZ σ q).testBit p = true
        · have hlt := cnt_lt hb hp
          have hv0 : ¬ v = 0 := by
            intro e
            rw [e] at g
            have z : (0 : Int32).toInt = 0 := by decide
            omega
          rw [if_pos hb, if_pos hb, if_neg (by decide), if_neg hv0]
        · rw [if_neg hb, if_neg hb, if_pos rfl]
      · by_cases hb : (LZ σ q).testBit p = true
        · have hlt := cnt_lt hb hp
          rw [if_pos hb, cnt_t hb, Int32.toInt_add, g, show (-1 : Int32).toInt = -1 by decide, bm32 (by omega) (by omega)]
          omega
        · rw [if_neg hb, cnt_f hb]; exact g
    · rintro k v g
      show m_ownOf_117_H10 (m_ownOf_117_L10 k) a v _ (nI q) σ' = _
      unfold m_ownOf_117_H10 m_ownOf_117_b50
      rw [e0, if_pos (nI_le (by omega) (by omega))]
theorem PV_mod {σ : Sg} {q x : Nat} (hx : x ≤ q) : PV σ q % 2 ^ x = (ets (mA σ) (2 ^ q - 1) x).2.2.1 := by
  refine tb_eq (q := x) (Nat.mod_lt _ (Nat.two_pow_pos x)) (ets_lt _ _ _) ?_
  intro y hy
  rw [Nat.testBit_mod_two_pow]
  simp only [hy, decide_true, Bool.true_and]
  have := ets_bit (A := mA σ) (set := 2 ^ q - 1) (c := x) (x := y) hy (q - x)
  rw [show x + (q - x) = q by omega] at this
  exact this
/-- the relation of a loose one by all pivots -/
def RG (σ : Sg) (q x p : Nat) : Int := rl (tz (ets (mA σ) (2 ^ q - 1) q)) x p
theorem mgroups {q x : Nat} {σ : Sg} (h0 : σ.1 118 0 = nI q) (hq : q ≤ 8) (hA : ∀ r c, r < 5 → c < q → (mA σ r c).toInt = mZ σ r c ∧ (mZ σ r c).natAbs ≤ 20) (hx : x < q) (hl : ¬ (PV σ q).testBit x = true) : ∃ σ', m_groups_117 (nI x) σ = some ((), σ') ∧ FR [123, 124] σ σ' ∧ ∀ p, p < q → (σ'.2 124 p).toInt = RG σ q x p := by
  obtain ⟨σ1, w1, w2⟩ := mfirm h0 hq hA
  have h8 : σ1.1 118 = σ.1 118 := FR_i w2 (by decide)
  have hmA := mA_fr h8
  have hmZ : mZ σ1 = mZ σ := by funext r c; unfold mZ; rw [dm_fr h8]
  have hPq := PV_lt σ q
  have h256 := pw_256 hq
  have hP := ets_PP (A := mA σ) (S := 2 ^ q - 1) (p := x) (q := q) (by omega)
  have hlx := ets_lt (mA σ) (2 ^ q - 1) x
  have hxq := pw_le (show x ≤ q by omega)
  have hm := mhad (S := (ets (mA σ) (2 ^ q - 1) x).2.2.1) (q0 := x) (σ := σ1) (q := q) (by rw [h8]; exact h0) hq (by rw [hmA, hmZ]; exact hA) (by omega) hx (by rw [hmA, hP])
  rw [hmA, hP] at hm
  have hz : ∀ r, (ets (mA σ) (2 ^ q - 1) x).2.1 ≤ r → r < 5 → (ets (mA σ) (2 ^ q - 1) x).1 r x = 0 := by
    have hrk := ets_rk (mA σ) (2 ^ q - 1) x
    rcases ets_step (A := mA σ) (set := 2 ^ q - 1) (c := x) with ⟨b1, _⟩ | ⟨_, _, b3⟩
    · have := ets_bit (A := mA σ) (set := 2 ^ q - 1) (c := x + 1) (x := x) (by omega) (q - (x + 1))
      rw [show x + 1 + (q - (x + 1)) = q by omega, b1] at this
      exact absurd this hl
    · intro r h1 h2
      exact efr_none (b3 (full_bit hx)) r h1 (by omega)
  obtain ⟨σ2, y1, y2, y3⟩ := hm.1 hz
  refine ⟨σ2, ?_, FR_trans w2 y2, ?_⟩
  · unfold m_groups_117
    rw [w1, bd_s, and_lo _ (by omega) x (by omega), PV_mod (by omega), y1, bd_s]
  · intro p hp
    rw [y3 p hp, hmZ, rl_E hA _ hx hp, hP]
    exact rl_own hA hx hp hl
