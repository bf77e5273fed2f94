/-! ===== PURE: firm, loose, groups ===== -/
theorem ets_stop {A : Nat → Nat → Int64} {S p : Nat} (h : ∀ x, p ≤ x → ¬ S.testBit x = true) : ∀ d, ets A S (p + d) = ets A S p
  | 0 => rfl
  | d + 1 => by
    show est1 S (p + d) (ets A S (p + d)) = _
    unfold est1
    rw [if_neg (h (p + d) (by omega)), ets_stop h d]
theorem lt_nb {P p : Nat} (h : P < 2 ^ p) : ∀ x, p ≤ x → ¬ P.testBit x = true := by
  intro x hx
  have := pw_le hx
  rw [Nat.testBit_lt_two_pow (by omega)]; decide
/-- the elimination by the pivots so far is the elimination so far -/
theorem ets_PP {A : Nat → Nat → Int64} {S p q : Nat} (hp : p ≤ q) : ets A (ets A S p).2.2.1 q = ets A S p := by
  obtain ⟨d, rfl⟩ : ∃ d, q = p + d := ⟨q - p, by omega⟩
  rw [ets_stop (lt_nb (ets_lt A S p)) d]
  exact ets_P (q := p) p (Nat.le_refl _)
theorem or0 (x : Int32) : x ||| 0 = x := by
  apply Int32.toBitVec_inj.mp
  show x.toBitVec ||| (0 : BitVec 32) = x.toBitVec
  simp
theorem and_lo : ∀ P, P < 256 → ∀ c, c < 8 → (nI P) &&& (((1 : Int32) <<< ((nI c) &&& 31)) - 1) = nI (P % 2 ^ c) := by decide +kernel
theorem lo_eq : ∀ q, q < 9 → ∀ P, P < 2 ^ q → (((1 : Int32) <<< ((nI q) &&& 31)) - 1) &&& ((nI P) ^^^ (-1)) = nI (2 ^ q - (P + 1)) := by decide +kernel
/-- the pivots of all -/
def PV (σ : Sg) (q : Nat) : Nat := (ets (mA σ) (2 ^ q - 1) q).2.2.1
def LZ (σ : Sg) (q : Nat) : Nat := 2 ^ q - (PV σ q + 1)
theorem PV_lt (σ : Sg) (q : Nat) : PV σ q < 2 ^ q := ets_lt _ _ _
theorem LZ_bit {σ : Sg} {q x : Nat} : (LZ σ q).testBit x = (decide (x < q) && !(PV σ q).testBit x) := Nat.testBit_two_pow_sub_succ (PV_lt σ q) x
theorem LZ_lt (σ : Sg) (q : Nat) : LZ σ q < 2 ^ q := by unfold LZ; have := PV_lt σ q; omega
theorem full_bit {q x : Nat} (h : x < q) : (2 ^ q - 1).testBit x = true := by
  rw [Nat.testBit_two_pow_sub_one]; simp [h]
theorem mfirm {q : Nat} {σ : Sg} (h0 : σ.1 118 0 = nI q) (hq : q ≤ 8) (hA : ∀ r c, r < 5 → c < q → (mA σ r c).toInt = mZ σ r c ∧ (mZ σ r c).natAbs ≤ 20) : ∃ σ', m_firm_117 σ = some (nI (PV σ q), σ') ∧ FR [123, 124] σ σ' := by
  unfold m_firm_117
  refine loopE (L := fun k p s => m_firm_117_L4 k (nI (ets (mA σ) (2 ^ q - 1) p).2.2.1) (nI p) s) (N := q) (P := fun p τ => FR [123, 124] σ τ) (Q := fun r => ∃ σ', r = some (nI (PV σ q), σ') ∧ FR [123, 124] σ σ') ?_ ?_ (fu_lt (by omega)) (FR_refl _ _)
  · rintro k p τ hp f
    have h8 : τ.1 118 = σ.1 118 := FR_i f (by decide)
    have hmA := mA_fr h8
    have hmZ : mZ τ = mZ σ := by funext r c; unfold mZ; rw [dm_fr h8]
    have hP := ets_PP (A := mA σ) (S := 2 ^ q - 1) (p := p) (q := q) (by omega)
    have hl := ets_lt (mA σ) (2 ^ q - 1) p
    have hp128 : 2 ^ p ≤ 128 := by have := pw_le (show p ≤ 7 by omega); omega
    have hpq := pw_le (show p ≤ q by omega)
    have hm := mhad (S := (ets (mA σ) (2 ^ q - 1) p).2.2.1) (q0 := p) (σ := τ) (q := q) (by rw [h8]; exact h0) hq (by rw [hmA, hmZ]; exact hA) (by omega) hp (by rw [hmA, hP])
    rw [hmA, hP] at hm
    have hst := ets_step (A := mA σ) (set := 2 ^ q - 1) (c := p)
    have hrk := ets_rk (mA σ) (2 ^ q - 1) p
    have st : ∀ r τ', m_isHad_117 (nI (ets (mA σ) (2 ^ q - 1) p).2.2.1) (nI p) τ = some (r, τ') → m_firm_117_L4 (k + 1) (nI (ets (mA σ) (2 ^ q - 1) p).2.2.1) (nI p) τ = if r = 0 then m_firm_117_L4 k (nI ((ets (mA σ) (2 ^ q - 1) p).2.2.1 + 2 ^ p)) (nI (p + 1)) τ' else m_firm_117_L4 k (nI (ets (mA σ) (2 ^ q - 1) p).2.2.1) (nI (p + 1)) τ' := by
      intro r τ' e
      show m_firm_117_H4 (m_firm_117_L4 k) _ (nI p) τ = _
      unfold m_firm_117_H4 m_firm_117_b31
      rw [h8, h0, if_neg (nI_ge hp (by omega)), e, bd_s, or_eq p (by omega) _ (by omega) hl, nI_1, or0]
    rcases hst with ⟨b1, b2, r, b3⟩ | ⟨b1, b2, b3⟩
    · obtain ⟨g1, g2, g3⟩ := efr_some b3
      obtain ⟨τ', w1, w2⟩ := hm.2 (fun h => g3 (h r g1 (by omega)))
      refine ⟨τ', ?_, FR_trans f w2⟩
      try dsimp only
      rw [st 0 τ' w1, if_pos rfl]
      have hnew : (ets (mA σ) (2 ^ q - 1) (p + 1)).2.2.1 = (ets (mA σ) (2 ^ q - 1) p).2.2.1 + 2 ^ p := by
        show (est1 (2 ^ q - 1) p (ets (mA σ) (2 ^ q - 1) p)).2.2.1 = _
        unfold est1; rw [if_pos b2, b3]
      rw [hnew]
    · have b3' := b3 (full_bit hp)
      obtain ⟨τ', w1, w2, _⟩ := hm.1 (fun r h1 h2 => efr_none b3' r h1 (by omega))
      refine ⟨τ', ?_, FR_trans f w2⟩
      try dsimp only
      rw [st 1 τ' w1, if_neg (by decide), b2]
  · rintro k τ f
    refine ⟨τ, ?_, f⟩
    show m_firm_117_H4 (m_firm_117_L4 k) _ (nI q) τ = _
    unfold m_firm_117_H4
    rw [FR_i f (by decide), h0, if_pos (nI_le (by omega) (by omega))]; rfl
theorem mloose {q : Nat} {σ : Sg} (h0 : σ.1 118 0 = nI q) (hq : q ≤ 8) (hA : ∀ r c, r < 5 → c < q → (mA σ r c).toInt = mZ σ r c ∧ (mZ σ r c).natAbs ≤ 20) : ∃ σ', m_loose_117 σ = some (nI (LZ σ q), σ') ∧ FR [123, 124] σ σ' := by
  obtain ⟨σ', w1, w2⟩ := mfirm h0 hq hA
  refine ⟨σ', ?_, w2⟩
  unfold m_loose_117
  rw [w1, bd_s, h0, lo_eq q (by omega) _ (PV_lt σ q)]; rfl
theorem jloose {q : Nat} {σ : Sg} (h : SP q σ) (hq : q ≤ 8) : j_looseSet_51 σ = some (nI (LZ σ q), σ) := by
  unfold j_looseSet_51
  rw [h.1, h.2.2.2.2.2.1, show (ets (mA σ) (2 ^ q - 1) q).2.2.1 = PV σ q from rfl, lo_eq q (by omega) _ (PV_lt σ q)]; rfl
/-! sizes of sets -/
def bp : Nat → Int32 → Int32 → Option Int32
  | 0, _, _ => none
  | n + 1, a, v => if v = 0 then some a else bp n (a + 1) (v &&& (v - 1))
theorem mbp : ∀ n a v r (σ : Sg) m, bp n a v = some r → n ≤ m → m_bits_s_L4 m a v σ = some (r, σ)
  | 0, a, v, r, σ, m, h, _ => by cases h
  | n + 1, a, v, r, σ, m, h, hm => by
    obtain ⟨m, rfl⟩ : ∃ k, m = k + 1 := ⟨m - 1, by omega⟩
    show m_bits_s_H4 (m_bits_s_L4 m) a v σ = _
    unfold m_bits_s_H4
    unfold bp at h
    by_cases g : v = 0
    · rw [if_pos g] at h ⊢
      rw [Option.some.inj h]
    · rw [if_neg g] at h ⊢
      exact mbp n _ _ r σ m h (by omega)
theorem bp_eq : ∀ S, S < 256 → bp 9 0 (nI S) = some (nI (cntS S 8)) := by decide +kernel
theorem cnt_8 {S q : Nat} (hS : S < 2 ^ q) (hq : q ≤ 8) : cntS S 8 = cntS S q := by
  obtain ⟨d, hd⟩ : ∃ d, 8 = q + d := ⟨8 - q, by omega⟩
  rw [hd]
  clear hd hq
  induction d with
  | zero => rfl
  | succ d ih =>
    have : ¬ S.testBit (q + d) = true := lt_nb hS _ (by omega)
    rw [← ih]; exact cnt_f this
theorem mbits {S q : Nat} (hS : S < 2 ^ q) (hq : q ≤ 8) (σ : Sg) : m_bits_s (nI S) σ = some (nI (cntS S q), σ) := by
  unfold m_bits_s
  rw [← cnt_8 hS hq]
  exact mbp 9 0 _ _ σ fu (bp_eq S (by have := pw_256 hq; omega)) (by decide)
theorem cnt_sub {S P q : Nat} (h : ∀ x, x < q → S.testBit x = !P.testBit x) : ∀ p, p ≤ q → cntS S p + cntS P p = p
  | 0, _ => rfl
  | p + 1, hp => by
    have ih := cnt_sub h p (by omega)
    unfold cntS
    rw [h p (by omega)]
    cases P.testBit p
    · rw [if_pos (by rfl), if_neg (by decide)]; omega
    · rw [if_neg (by decide), if_pos rfl]; omega
theorem cnt_LZ (σ : Sg) (q : Nat) : cntS (LZ σ q) q + cntS (PV σ q) q = q := cnt_sub (fun x hx => by rw [LZ_bit]; simp [hx]) q (Nat.le_refl _)
theorem RK_eq (σ : Sg) (q : Nat) : (ets (mA σ) (2 ^ q - 1) q).2.1 = cntS (PV σ q) q := (ets_cnt (mA σ) (2 ^ q - 1) q).1
