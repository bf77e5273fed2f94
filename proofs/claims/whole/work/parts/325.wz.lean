/-! ===== PURE: what SCALES weigh ===== -/
def scA (σ : Sg) (p : Nat) : Nat := (σ.1 118 (49 + p)).toInt.toNat
def scB (σ : Sg) (p : Nat) : Nat := (σ.1 118 (57 + p)).toInt.toNat
def hsB (σ : Sg) (p : Nat) : Bool := !(decide (σ.1 118 (49 + p) = 0))
theorem hs_iff {σ : Sg} {p : Nat} : hsB σ p = true ↔ ¬ σ.1 118 (49 + p) = 0 := by unfold hsB; simp
theorem sc_ok {n q ver p : Nat} {σ : Sg} (h : VV n q ver σ) (hp : p < q) (hs : hsB σ p = true) : σ.1 12 p = nI (scA σ p) ∧ σ.1 13 p = nI (scB σ p) ∧ σ.1 118 (49 + p) = nI (scA σ p) ∧ σ.1 118 (57 + p) = nI (scB σ p) ∧ 1 ≤ scA σ p ∧ scA σ p ≤ 99 ∧ 1 ≤ scB σ p ∧ scB σ p ≤ 99 := by
  obtain ⟨e, hx⟩ := sc_in h hp
  rcases hx with h0 | ⟨x, y, hx, hx9, hy, hy9, e1, e2, e3⟩
  · exact absurd (e.symm.trans h0) (hs_iff.mp hs)
  · have a1 : scA σ p = x := by unfold scA; rw [← e, e1, nI_toInt (by omega)]; omega
    have a2 : scB σ p = y := by unfold scB; rw [e3, nI_toInt (by omega)]; omega
    rw [a1, a2]
    exact ⟨e1, e2, e.symm.trans e1, e3, hx, hx9, hy, hy9⟩
def dz (σ : Sg) (pr p : Nat) : Int := (tm pr (scA σ p) : Int) - (tm pr (scB σ p) : Int)
def wz (R : Nat → Int) (σ : Sg) (pr : Nat) (c : Nat → Bool) : Nat → Int
  | 0 => 0
  | p + 1 => wz R σ pr c p + (if c p = true then R p * dz σ pr p else 0)
theorem dz_le (σ : Sg) (pr p : Nat) : (dz σ pr p).natAbs ≤ 7 := by
  have h1 := tm_le pr (scA σ p)
  have h2 := tm_le pr (scB σ p)
  unfold dz
  omega
theorem rd_le {R : Nat → Int} {σ : Sg} {pr p : Nat} (h : (R p).natAbs ≤ 384000000) : (R p * dz σ pr p).natAbs ≤ 2688000000 := by
  rw [Int.natAbs_mul]
  have := Nat.mul_le_mul h (dz_le σ pr p)
  omega
theorem wz_le {R : Nat → Int} {σ : Sg} {pr : Nat} {c : Nat → Bool} : ∀ k, (∀ p, p < k → (R p).natAbs ≤ 384000000) → (wz R σ pr c k).natAbs ≤ k * 2688000000
  | 0, _ => by show (0 : Int).natAbs ≤ 0 * 2688000000; decide
  | k + 1, h => by
    have ih := wz_le (R := R) (σ := σ) (pr := pr) (c := c) k (fun p hp => h p (by omega))
    have hd := rd_le (σ := σ) (pr := pr) (h k (by omega))
    show (wz R σ pr c k + (if c k = true then R k * dz σ pr k else 0)).natAbs ≤ _
    split <;> omega
theorem wz_cg {R R' : Nat → Int} {σ σ' : Sg} {pr : Nat} {c c' : Nat → Bool} : ∀ k, (∀ p, p < k → R p ≠ 0 ∨ R' p ≠ 0 → c p = c' p ∧ R p = R' p ∧ dz σ pr p = dz σ' pr p) → wz R σ pr c k = wz R' σ' pr c' k
  | 0, _ => rfl
  | k + 1, h => by
    show wz R σ pr c k + (if c k = true then R k * dz σ pr k else 0) = wz R' σ' pr c' k + (if c' k = true then R' k * dz σ' pr k else 0)
    rw [wz_cg k (fun p hp => h p (by omega))]
    congr 1
    by_cases g : R k ≠ 0 ∨ R' k ≠ 0
    · obtain ⟨a, b, c⟩ := h k (by omega) g
      rw [a, b, c]
    · have g1 : R k = 0 := Classical.byContradiction (fun w => g (Or.inl w))
      have g2 : R' k = 0 := Classical.byContradiction (fun w => g (Or.inr w))
      rw [g1, g2]
      simp
theorem dz_fr {σ σ' : Sg} (h8 : σ'.1 118 = σ.1 118) (pr p : Nat) : dz σ' pr p = dz σ pr p := by unfold dz scA scB; rw [h8]
theorem wz_fr {R : Nat → Int} {σ σ' : Sg} (h8 : σ'.1 118 = σ.1 118) (pr : Nat) (c : Nat → Bool) (k : Nat) : wz R σ' pr c k = wz R σ pr c k := wz_cg k (fun p _ _ => ⟨rfl, rfl, dz_fr h8 pr p⟩)
theorem sub_t {a b : Nat} (ha : a ≤ 7) (hb : b ≤ 7) : (nI a - nI b).toInt = (a : Int) - (b : Int) := by
  rw [Int32.toInt_sub, nI_toInt (by omega), nI_toInt (by omega)]; exact bm32 (by omega) (by omega)
/-- the class's sum -/
theorem jtog {n q ver S pr : Nat} {R : Nat → Int} {σ : Sg} (h : VV n q ver σ) (hS : S < 256) (hp2 : 2 ≤ pr) (hp : pr ≤ 97) (hR : ∀ p, p < q → (σ.1 113 p).toInt = R p ∧ (R p).natAbs ≤ 384000000) (hs : ∀ p, p < q → S.testBit p = true → R p ≠ 0 → hsB σ p = true) : ∃ r, j_together_1_113 (nI S) (nI pr) σ = some (r, σ) ∧ r.toInt = wz R σ pr (fun p => S.testBit p) q := by
  have hq := vq h
  unfold j_together_1_113
  refine loopE (L := fun m p (v : Int64) => j_together_1_113_L6 m (nI S) (nI pr) v (nI p) σ) (N := q) (s := (0 : Int64)) (P := fun p v => v.toInt = wz R σ pr (fun p => S.testBit p) p) (Q := fun r => ∃ r', r = some (r', σ) ∧ r'.toInt = wz R σ pr (fun p => S.testBit p) q) ?_ ?_ (fu_lt (by omega)) rfl
  · rintro m p v hpq g
    obtain ⟨r1, r2⟩ := hR p hpq
    have hl := wz_le (R := R) (σ := σ) (pr := pr) (c := fun p => S.testBit p) p (fun x hx => (hR x (by omega)).2)
    have un : wz R σ pr (fun p => S.testBit p) (p + 1) = wz R σ pr (fun p => S.testBit p) p + (if S.testBit p = true then R p * dz σ pr p else 0) := rfl
    have go : ∀ (x : Int64) τ, j_together_1_113_b67 (j_together_1_113_L6 m) (nI S) (nI pr) x (nI p) τ = j_together_1_113_L6 m (nI S) (nI pr) x (nI (p + 1)) τ := by
      intro x τ; unfold j_together_1_113_b67; rw [nI_1]
    by_cases hb : S.testBit p = true
    · by_cases g0 : R p = 0
      · refine ⟨v, ?_, by rw [un, if_pos hb, g, g0]; omega⟩
        show j_together_1_113_H6 (j_together_1_113_L6 m) (nI S) (nI pr) v (nI p) σ = _
        unfold j_together_1_113_H6
        have z : σ.1 113 p = 0 := Int32.toInt_inj.mp (by rw [r1, g0]; rfl)
        rw [(vMR h).1, if_neg (nI_ge hpq (by omega)), j_bit_eq hS (by omega), bd_s, if_pos hb, if_pos rfl, inB_t (by omega) (by omega), gd_t, cl_n (by omega), if_pos z, go]
      · obtain ⟨s1, s2, s3, s4, s5, s6, s7, s8⟩ := sc_ok h hpq (hs p hpq hb g0)
        have hd := rd_le (σ := σ) (pr := pr) r2
        have t1 := tm_le pr (scA σ p)
        have t2 := tm_le pr (scB σ p)
        have e1 : (σ.1 113 p).toInt64.toInt = R p := by rw [Int32.toInt_toInt64, r1]
        have e2 : (nI (tm pr (scA σ p)) - nI (tm pr (scB σ p))).toInt64.toInt = dz σ pr p := by rw [Int32.toInt_toInt64, sub_t t1 t2]; rfl
        have e3 := L_mul e1 e2 (by omega) (by omega)
        refine ⟨v + (σ.1 113 p).toInt64 * (nI (tm pr (scA σ p)) - nI (tm pr (scB σ p))).toInt64, ?_, by rw [un, if_pos hb]; exact L_add g e3 (by omega) (by omega)⟩
        show j_together_1_113_H6 (j_together_1_113_L6 m) (nI S) (nI pr) v (nI p) σ = _
        unfold j_together_1_113_H6
        have z : ¬ σ.1 113 p = 0 := fun w => g0 (by rw [← r1, w]; rfl)
        rw [(vMR h).1, if_neg (nI_ge hpq (by omega)), j_bit_eq hS (by omega), bd_s, if_pos hb, if_pos rfl, inB_t (by omega) (by omega), gd_t, cl_n (by omega), if_neg z, gd_t, gd_t, s1, jtimes hp2 hp s6, bd_s, gd_t, s2, jtimes hp2 hp s8, bd_s, go]
    · refine ⟨v, ?_, by rw [un, if_neg hb, g]; omega⟩
      show j_together_1_113_H6 (j_together_1_113_L6 m) (nI S) (nI pr) v (nI p) σ = _
      unfold j_together_1_113_H6
      rw [(vMR h).1, if_neg (nI_ge hpq (by omega)), j_bit_eq hS (by omega), bd_s, if_neg hb, if_neg (by decide), go]
  · rintro m v g
    refine ⟨v, ?_, g⟩
    show j_together_1_113_H6 (j_together_1_113_L6 m) (nI S) (nI pr) v (nI q) σ = _
    unfold j_together_1_113_H6
    rw [(vMR h).1, if_pos (nI_le (by omega) (by omega))]
/-- the reference's sum -/
theorem mwei {n q ver pr : Nat} {b : Int32} {c : Nat → Bool} {R : Nat → Int} {σ0 σ : Sg} (h : VV n q ver σ0) (h8 : σ.1 118 = σ0.1 118) (hp2 : 2 ≤ pr) (hp : pr ≤ 97) (hb : ∀ p, p < q → (nI p = b ↔ c p = false)) (hR : ∀ p, p < q → (σ.2 124 p).toInt = R p ∧ (R p).natAbs ≤ 384000000) (hs : ∀ p, p < q → c p = true → R p ≠ 0 → hsB σ0 p = true) : ∃ r, m_weighs_117 (nI pr) b σ = some (r, σ) ∧ r.toInt = wz R σ0 pr c q := by
  have hq := vq h
  unfold m_weighs_117
  refine loopE (L := fun m p (v : Int64) => m_weighs_117_L5 m (nI pr) b v (nI p) σ) (N := q) (s := (0 : Int64)) (P := fun p v => v.toInt = wz R σ0 pr c p) (Q := fun r => ∃ r', r = some (r', σ) ∧ r'.toInt = wz R σ0 pr c q) ?_ ?_ (fu_lt (by omega)) rfl
  · rintro m p v hpq g
    obtain ⟨r1, r2⟩ := hR p hpq
    have hl := wz_le (R := R) (σ := σ0) (pr := pr) (c := c) p (fun x hx => (hR x (by omega)).2)
    have un : wz R σ0 pr c (p + 1) = wz R σ0 pr c p + (if c p = true then R p * dz σ0 pr p else 0) := rfl
    have go : ∀ (x y : Int64) τ, m_weighs_117_b55 (m_weighs_117_L5 m) (nI pr) b (nI p) x y τ = m_weighs_117_L5 m (nI pr) b (x + y) (nI (p + 1)) τ := by
      intro x y τ; unfold m_weighs_117_b55; rw [nI_1]
    have v00 : v + 0 = v := by grind
    by_cases hc : c p = true
    · have hnb : ¬ nI p = b := fun w => by rw [(hb p hpq).mp w] at hc; cases hc
      by_cases g0 : R p = 0
      · refine ⟨v, ?_, by rw [un, if_pos hc, g, g0]; omega⟩
        show m_weighs_117_H5 (m_weighs_117_L5 m) (nI pr) b v (nI p) σ = _
        unfold m_weighs_117_H5 m_weighs_117_b54
        have z : σ.2 124 p = 0 := L_eq (by rw [r1, g0]; rfl)
        rw [h8, v0 h, if_neg (nI_ge hpq (by omega)), if_neg hnb, inB_t (by omega) (by omega), gd_t, cl_n (by omega), if_pos (cmp_eq.mpr z), go, v00]
      · obtain ⟨s1, s2, s3, s4, s5, s6, s7, s8⟩ := sc_ok h hpq (hs p hpq hc g0)
        have hd := rd_le (σ := σ0) (pr := pr) r2
        have t1 := tm_le pr (scA σ0 p)
        have t2 := tm_le pr (scB σ0 p)
        have e2 : (nI (tm pr (scA σ0 p)) - nI (tm pr (scB σ0 p))).toInt64.toInt = dz σ0 pr p := by rw [Int32.toInt_toInt64, sub_t t1 t2]; rfl
        have e3 := L_mul r1 e2 (by omega) (by omega)
        refine ⟨v + σ.2 124 p * (nI (tm pr (scA σ0 p)) - nI (tm pr (scB σ0 p))).toInt64, ?_, by rw [un, if_pos hc]; exact L_add g e3 (by omega) (by omega)⟩
        show m_weighs_117_H5 (m_weighs_117_L5 m) (nI pr) b v (nI p) σ = _
        unfold m_weighs_117_H5 m_powerIn_117
        have z : ¬ σ.2 124 p = 0 := fun w => g0 (by rw [← r1, w]; rfl)
        rw [h8, v0 h, if_neg (nI_ge hpq (by omega)), if_neg hnb, inB_t (by omega) (by omega), gd_t, cl_n (by omega), if_neg (fun w => z (cmp_eq.mp w)), gd_t, i49, i57, inB_t (by omega) (by omega), gd_t, cl_n (by omega), s3, moften hp2 hp s6, bd_s, inB_t (by omega) (by omega), gd_t, cl_n (by omega), h8, s4, moften hp2 hp s8, bd_s, bd_s, go]
    · have hbe : nI p = b := (hb p hpq).mpr (by simpa using hc)
      refine ⟨v, ?_, by rw [un, if_neg hc, g]; omega⟩
      show m_weighs_117_H5 (m_weighs_117_L5 m) (nI pr) b v (nI p) σ = _
      unfold m_weighs_117_H5 m_weighs_117_b54
      rw [h8, v0 h, if_neg (nI_ge hpq (by omega)), if_pos hbe, go, v00]
  · rintro m v g
    refine ⟨v, ?_, g⟩
    show m_weighs_117_H5 (m_weighs_117_L5 m) (nI pr) b v (nI q) σ = _
    unfold m_weighs_117_H5
    rw [h8, v0 h, if_pos (nI_le (by omega) (by omega))]
/-! all primes -/
def ubB (R : Nat → Int) (σ : Sg) (q : Nat) : Bool := (ff (fun j => !(decide (wz R σ (prm j) (fun _ => true) q = 0))) 25 0).isSome
theorem ub_no {R : Nat → Int} {σ : Sg} {q : Nat} : ¬ ubB R σ q = true ↔ ∀ j, j < 25 → wz R σ (prm j) (fun _ => true) q = 0 := by
  unfold ubB
  constructor
  · intro h j hj
    cases hf : ff (fun j => !(decide (wz R σ (prm j) (fun _ => true) q = 0))) 25 0 with
    | none => have := ff_none hf j (by omega) (by omega); simpa using this
    | some x => rw [hf] at h; exact absurd rfl h
  · intro h w
    rw [Option.isSome_iff_exists] at w
    obtain ⟨x, hx⟩ := w
    obtain ⟨h1, h2, h3, _⟩ := ff_some hx
    have := h x (by omega)
    simp [this] at h3
theorem ub_fr {R : Nat → Int} {σ σ' : Sg} (h8 : σ'.1 118 = σ.1 118) (q : Nat) : ubB R σ' q = ubB R σ q := by
  unfold ubB
  have : (fun j => !(decide (wz R σ' (prm j) (fun _ => true) q = 0))) = (fun j => !(decide (wz R σ (prm j) (fun _ => true) q = 0))) := by
    funext j; rw [wz_fr h8]
  rw [this]
theorem junb {n q ver : Nat} {R : Nat → Int} {σ : Sg} (h : VV n q ver σ) (hR : ∀ p, p < q → (σ.1 113 p).toInt = R p ∧ (R p).natAbs ≤ 384000000) (hs : ∀ p, p < q → R p ≠ 0 → hsB σ p = true) : j_isUnbalanced_0_113 σ = some (if ubB R σ q = true then 1 else 0, σ) := by
  have hq := vq h
  have h2 := pw_256 hq
  have hwc : ∀ pr, wz R σ pr (fun p => (2 ^ q - 1).testBit p) q = wz R σ pr (fun _ => true) q := fun pr => wz_cg q (fun p hp _ => ⟨full_bit hp, rfl, rfl⟩)
  unfold j_isUnbalanced_0_113
  rw [(vMR h).1, all_eq q (by omega)]
  refine loopQ (fun m j (_ : Unit) => j_isUnbalanced_0_113_L23 m (nI (2 ^ q - 1)) 25 (nI j) σ) 25 (fun j _ => ff (fun j => !(decide (wz R σ (prm j) (fun _ => true) q = 0))) 25 0 = ff (fun j => !(decide (wz R σ (prm j) (fun _ => true) q = 0))) (25 - j) j) (fun r => r = some (if ubB R σ q = true then 1 else 0, σ)) ?_ ?_ 25 fu 0 () (by omega) (by decide) rfl
  · rintro m j _ hj g
    obtain ⟨e, he⟩ : ∃ e, 25 - j = e + 1 := ⟨25 - j - 1, by omega⟩
    rw [he] at g
    obtain ⟨s1, s2, s3⟩ := sv_prm j hj
    obtain ⟨r, w1, w2⟩ := jtog (S := 2 ^ q - 1) (pr := prm j) h (by omega) s2 s3 hR (fun p hp _ hr => hs p hp hr)
    rw [hwc] at w2
    have st : j_isUnbalanced_0_113_L23 (m + 1) (nI (2 ^ q - 1)) 25 (nI j) σ = if wz R σ (prm j) (fun _ => true) q = 0 then j_isUnbalanced_0_113_L23 m (nI (2 ^ q - 1)) 25 (nI (j + 1)) σ else some (1, σ) := by
      show j_isUnbalanced_0_113_H23 (j_isUnbalanced_0_113_L23 m) _ 25 (nI j) σ = _
      unfold j_isUnbalanced_0_113_H23
      rw [if_neg (show ¬ (25 : Int32) ≤ nI j from nI_ge (b := 25) hj (by decide)), inB_t hj (by omega), gd_t, cl_n (by omega), s1, w1, bd_s, nI_1]
      by_cases g : wz R σ (prm j) (fun _ => true) q = 0
      · rw [if_pos (cmp_eq.mpr (L_eq (by rw [w2, g]; rfl))), if_pos g]
      · rw [if_neg (fun w => g (by rw [← w2, cmp_eq.mp w]; rfl)), if_neg g]
    rw [st]
    by_cases hz : wz R σ (prm j) (fun _ => true) q = 0
    · rw [ff_f (d := e) (p := j) (by simp [hz])] at g
      rw [if_pos hz]
      exact Or.inl ⟨(), rfl, by rw [g, show 25 - (j + 1) = e by omega]⟩
    · rw [ff_t (d := e) (p := j) (by simp [hz])] at g
      rw [if_neg hz]
      right
      have : ubB R σ q = true := by unfold ubB; rw [g]; rfl
      rw [this]; rfl
  · rintro m _ g
    rw [show 25 - 25 = 0 by omega] at g
    have : ubB R σ q = false := by unfold ubB; rw [g]; rfl
    show j_isUnbalanced_0_113_H23 (j_isUnbalanced_0_113_L23 m) _ 25 (nI 25) σ = _
    unfold j_isUnbalanced_0_113_H23
    rw [if_pos (show (25 : Int32) ≤ nI 25 by decide), this]; rfl
theorem malike {n q ver : Nat} {R : Nat → Int} {σ0 σ : Sg} (h : VV n q ver σ0) (h8 : σ.1 118 = σ0.1 118) (hR : ∀ p, p < q → (σ.2 124 p).toInt = R p ∧ (R p).natAbs ≤ 384000000) (hs : ∀ p, p < q → R p ≠ 0 → hsB σ0 p = true) : m_isAlike_117 σ = some (if ubB R σ0 q = true then 0 else 1, σ) := by
  have hq := vq h
  have hc : cj (fun n => !(decide (2 ≤ n) && prB n) || decide (wz R σ0 n (fun _ => true) q = 0)) 98 = if ubB R σ0 q = true then 0 else 1 := by
    rcases cj_01 (fun n => !(decide (2 ≤ n) && prB n) || decide (wz R σ0 n (fun _ => true) q = 0)) 98 with ⟨e, g⟩ | ⟨e, g⟩
    · rw [e, if_neg (ub_no.mpr (fun j hj => by
        obtain ⟨s1, s2, s3⟩ := sv_prm j hj
        have := g (prm j) (by omega)
        simp [s2, prm_B j hj] at this
        exact this))]
    · rw [e]
      by_cases hu : ubB R σ0 q = true
      · rw [if_pos hu]
      · exfalso
        apply g
        intro j hj
        by_cases w : 2 ≤ j ∧ prB j = true
        · obtain ⟨i, hi, hij⟩ := prB_ex w.1 (by omega) w.2
          have := ub_no.mp hu i hi
          rw [hij] at this
          simp [this]
        · have : (decide (2 ≤ j) && prB j) = false := by
            rcases Decidable.em (2 ≤ j) with w1 | w1
            · have : prB j = false := by
                cases hh : prB j
                · rfl
                · exact absurd ⟨w1, hh⟩ w
              simp [this]
            · simp [w1]
          simp [this]
  have h2c : cj (fun n => !(decide (2 ≤ n) && prB n) || decide (wz R σ0 n (fun _ => true) q = 0)) 2 = 1 := by
    rcases cj_01 (fun n => !(decide (2 ≤ n) && prB n) || decide (wz R σ0 n (fun _ => true) q = 0)) 2 with ⟨e, _⟩ | ⟨_, g⟩
    · exact e
    · exact absurd (fun j hj => by
        have : ¬ 2 ≤ j := by omega
        simp [this]) g
  rw [← hc]
  unfold m_isAlike_117
  refine loopQ (fun m x (s : Int32) => m_isAlike_117_L4 m s (nI x) σ) 98 (fun x s => 2 ≤ x ∧ s = cj (fun n => !(decide (2 ≤ n) && prB n) || decide (wz R σ0 n (fun _ => true) q = 0)) x) (fun r => r = some (cj (fun n => !(decide (2 ≤ n) && prB n) || decide (wz R σ0 n (fun _ => true) q = 0)) 98, σ)) ?_ ?_ 96 fu 2 1 (by omega) (by decide) ⟨Nat.le_refl _, h2c.symm⟩
  · rintro m x s hx ⟨h2, rfl⟩
    refine Or.inl ⟨_, ?_, by omega, rfl⟩
    show m_isAlike_117_H4 (m_isAlike_117_L4 m) _ (nI x) σ = m_isAlike_117_L4 m (_ &&& (if (!(decide (2 ≤ x) && prB x) || decide (wz R σ0 x (fun _ => true) q = 0)) = true then (1 : Int32) else 0)) (nI (x + 1)) σ
    obtain ⟨r, w1, w2⟩ := mwei (b := -1) (c := fun _ => true) (pr := x) h h8 h2 (by omega) (fun p hp => ⟨fun w => by
      have := (eq_l (a := -1) (b := p) (by omega)).mp w.symm
      rw [show (-1 : Int32).toInt = -1 by decide] at this; omega, fun w => by cases w⟩) hR (fun p hp _ hr => hs p hp hr)
    unfold m_isAlike_117_H4 m_isAlike_117_b29 m_isAlike_117_b34
    rw [if_neg (show ¬ (97 : Int32) < nI x from fun w => by have := (gt_l (b := 97) (by omega)).mp w; rw [nI_toInt (by omega)] at this; omega), mprime h2 (by omega), bd_s, nI_1]
    by_cases g1 : prB x = true
    · rw [if_pos g1, if_neg (by decide), w1, bd_s]
      by_cases g2 : wz R σ0 x (fun _ => true) q = 0
      · rw [if_pos (cmp_eq.mpr (L_eq (by rw [w2, g2]; rfl))), if_pos (by simp [g2])]
      · rw [if_neg (fun w => g2 (by rw [← w2, cmp_eq.mp w]; rfl)), if_neg (by simp [h2, g1, g2])]
    · rw [if_neg g1, if_pos rfl, if_pos (by simp [g1])]
  · rintro m s ⟨h2, rfl⟩
    show m_isAlike_117_H4 (m_isAlike_117_L4 m) _ (nI 98) σ = _
    unfold m_isAlike_117_H4
    rw [if_pos (show (97 : Int32) < nI 98 by decide), cj_nb, gd_t]
