/-! ===== PURE: small questions that both sides ask, refusals ===== -/
theorem nI_mul (a b : Nat) : nI a * nI b = nI (a * b) := by
  apply Int32.toBitVec_inj.mp
  show BitVec.ofNat 32 a * BitVec.ofNat 32 b = BitVec.ofNat 32 (a * b)
  simp [BitVec.ofNat_mul]
theorem le_of_out {a : Int32} {q : Nat} (hq : q < 2 ^ 31) (h : out a q) : a < 0 ∨ nI q ≤ a := h
/-- 0, 1 within 2 -/
theorem jq_in {σ : Sg} {q k : Nat} (hq : q ≤ 8) (h : σ.1 1 0 = nI q) (hk : k < q) : j_isQuantity_0 (nI k) σ = some (1, σ) := by
  unfold j_isQuantity_0
  rw [if_neg (nI_pos (by omega)), h, if_neg (nI_ge hk (by omega))]; rfl
theorem jq_out {σ : Sg} {q : Nat} {a : Int32} (h : σ.1 1 0 = nI q) (ho : out a q) : j_isQuantity_0 a σ = some (0, σ) := by
  unfold j_isQuantity_0
  by_cases h1 : a < 0
  · rw [if_pos h1]; rfl
  · rcases ho with ho | ho
    · exact absurd ho h1
    · rw [if_neg h1, h, if_pos ho]; rfl
theorem jun_in {σ : Sg} {k : Nat} (hk : k < 5) : j_isUnit_s (nI k) σ = some (1, σ) := by
  unfold j_isUnit_s
  rw [if_neg (nI_pos (by omega)), if_neg (show ¬ (5 : Int32) ≤ nI k from nI_ge (b := 5) hk (by decide))]; rfl
theorem jun_out {σ : Sg} {a : Int32} (ho : out a 5) : j_isUnit_s a σ = some (0, σ) := by
  unfold j_isUnit_s
  by_cases h1 : a < 0
  · rw [if_pos h1]; rfl
  · rcases ho with ho | ho
    · exact absurd ho h1
    · rw [if_neg h1, if_pos (show (5 : Int32) ≤ a from ho)]; rfl
theorem jki_in {σ : Sg} {k : Nat} (hk : k < 6) : j_isKind_s (nI k) σ = some (1, σ) := by
  unfold j_isKind_s
  rw [if_neg (nI_pos (by omega)), if_neg (show ¬ (6 : Int32) ≤ nI k from nI_ge (b := 6) hk (by decide))]; rfl
theorem jki_out {σ : Sg} {a : Int32} (ho : out a 6) : j_isKind_s a σ = some (0, σ) := by
  unfold j_isKind_s
  by_cases h1 : a < 0
  · rw [if_pos h1]; rfl
  · rcases ho with ho | ho
    · exact absurd ho h1
    · rw [if_neg h1, if_pos (show (6 : Int32) ≤ a from ho)]; rfl
theorem jli_in {σ : Sg} {k : Nat} (hk : k < 3) : j_isList_s (nI k) σ = some (1, σ) := by
  unfold j_isList_s
  rw [if_neg (nI_pos (by omega)), if_neg (show ¬ (3 : Int32) ≤ nI k from nI_ge (b := 3) hk (by decide))]; rfl
theorem jli_out {σ : Sg} {a : Int32} (ho : out a 3) : j_isList_s a σ = some (0, σ) := by
  unfold j_isList_s
  by_cases h1 : a < 0
  · rw [if_pos h1]; rfl
  · rcases ho with ho | ho
    · exact absurd ho h1
    · rw [if_neg h1, if_pos (show (3 : Int32) ≤ a from ho)]; rfl
theorem jpa_in {σ : Sg} {k : Nat} (hk : k < 2) : j_isPart_s (nI k) σ = some (1, σ) := by
  have : k = 0 ∨ k = 1 := by omega
  rcases this with rfl | rfl <;> rfl
theorem jpa_out {σ : Sg} {a : Int32} (ho : out a 2) : j_isPart_s a σ = some (0, σ) := by
  unfold j_isPart_s
  have h0 : ¬ a = 0 := by
    rintro rfl
    rcases ho with ho | ho <;> exact absurd ho (by decide)
  have h1 : ¬ a = 1 := by
    rintro rfl
    rcases ho with ho | ho <;> exact absurd ho (by decide)
  rw [if_neg h0, if_neg h1]; rfl
/-- the reference's question -/
theorem mi_in {σ : Sg} {q k : Nat} {m : Int32} (hm : m = nI (q - 1)) (hk : k < q) (hq : q < 2 ^ 31) : m_isIn_s (nI k).toInt64 (0 : Int32).toInt64 m.toInt64 σ = some (1, σ) := by
  rw [isInI, hm, if_pos ⟨nI_pos' (by omega), nI_le (by omega) (by omega)⟩]
theorem mi_out {σ : Sg} {q : Nat} {a m : Int32} (hm : m.toInt = (q : Int) - 1) (hq : q < 2 ^ 31) (ho : out a q) : m_isIn_s a.toInt64 (0 : Int32).toInt64 m.toInt64 σ = some (0, σ) := by
  rw [isInI, if_neg]
  rintro ⟨h1, h2⟩
  have h1' := Int32.le_iff_toInt_le.mp h1
  have h2' := Int32.le_iff_toInt_le.mp h2
  have h3 := out_lt hq ho
  have z : (0 : Int32).toInt = 0 := by decide
  rw [z] at h1'
  omega
theorem pred_toInt {q : Nat} (hq : q < 2 ^ 31) : (nI q - 1).toInt = (q : Int) - 1 := by
  rw [Int32.toInt_sub, nI_toInt hq, show (1 : Int32).toInt = 1 by decide]
  apply Int.bmod_eq_of_le <;> omega
theorem pred_eq {q : Nat} (hq : 1 ≤ q) : nI q - 1 = nI (q - 1) := by
  obtain ⟨m, rfl⟩ : ∃ m, q = m + 1 := ⟨q - 1, by omega⟩
  rw [nI_pred]; rfl
theorem mq_in {σ : Sg} {q k : Nat} (hq : q ≤ 8) (h : σ.1 118 0 = nI q) (hk : k < q) : m_isOne_117 (nI k) σ = some (1, σ) := by
  unfold m_isOne_117
  rw [h, show (0 : Int64) = (0 : Int32).toInt64 by decide, mi_in (q := q) (pred_eq (by omega)) hk (by omega)]; rfl
theorem mq_out {σ : Sg} {q : Nat} {a : Int32} (hq : q ≤ 8) (h : σ.1 118 0 = nI q) (ho : out a q) : m_isOne_117 a σ = some (0, σ) := by
  unfold m_isOne_117
  rw [h, show (0 : Int64) = (0 : Int32).toInt64 by decide, mi_out (q := q) (pred_toInt (by omega)) (by omega) ho]; rfl
theorem mun_in {σ : Sg} {k : Nat} (hk : k < 5) : m_isUnit_s (nI k) σ = some (1, σ) := by
  unfold m_isUnit_s
  rw [show (0 : Int64) = (0 : Int32).toInt64 by decide, show (4 : Int64) = (4 : Int32).toInt64 by decide, mi_in (q := 5) (m := 4) rfl hk (by omega)]; rfl
theorem mun_out {σ : Sg} {a : Int32} (ho : out a 5) : m_isUnit_s a σ = some (0, σ) := by
  unfold m_isUnit_s
  rw [show (0 : Int64) = (0 : Int32).toInt64 by decide, show (4 : Int64) = (4 : Int32).toInt64 by decide, mi_out (q := 5) (by decide) (by omega) ho]; rfl
theorem mli_in {σ : Sg} {k : Nat} (hk : k < 3) : m_isList_s (nI k) σ = some (1, σ) := by
  unfold m_isList_s
  rw [show (0 : Int64) = (0 : Int32).toInt64 by decide, show (2 : Int64) = (2 : Int32).toInt64 by decide, mi_in (q := 3) (m := 2) rfl hk (by omega)]; rfl
theorem mli_out {σ : Sg} {a : Int32} (ho : out a 3) : m_isList_s a σ = some (0, σ) := by
  unfold m_isList_s
  rw [show (0 : Int64) = (0 : Int32).toInt64 by decide, show (2 : Int64) = (2 : Int32).toInt64 by decide, mi_out (q := 3) (by decide) (by omega) ho]; rfl
theorem mki_in {σ : Sg} {k : Nat} (hk : k < 6) : m_isIn_s (nI k).toInt64 0 5 σ = some (1, σ) := by
  rw [show (0 : Int64) = (0 : Int32).toInt64 by decide, show (5 : Int64) = (5 : Int32).toInt64 by decide, mi_in (q := 6) (m := 5) rfl hk (by omega)]
theorem mki_out {σ : Sg} {a : Int32} (ho : out a 6) : m_isIn_s a.toInt64 0 5 σ = some (0, σ) := by
  rw [show (0 : Int64) = (0 : Int32).toInt64 by decide, show (5 : Int64) = (5 : Int32).toInt64 by decide, mi_out (q := 6) (by decide) (by omega) ho]
theorem mpa_in {σ : Sg} {k : Nat} (hk : k < 2) : m_isIn_s (nI k).toInt64 0 1 σ = some (1, σ) := by
  rw [show (0 : Int64) = (0 : Int32).toInt64 by decide, show (1 : Int64) = (1 : Int32).toInt64 by decide, mi_in (q := 2) (m := 1) rfl hk (by omega)]
theorem mpa_out {σ : Sg} {a : Int32} (ho : out a 2) : m_isIn_s a.toInt64 0 1 σ = some (0, σ) := by
  rw [show (0 : Int64) = (0 : Int32).toInt64 by decide, show (1 : Int64) = (1 : Int32).toInt64 by decide, mi_out (q := 2) (by decide) (by omega) ho]
/-! refusals -/
def rj (k : Nat) (σ : Sg) : Sg := si σ 116 k (σ.1 116 k + 1)
def rm (k : Nat) (σ : Sg) : Sg := si σ 120 k (σ.1 120 k + 1)
theorem jr1 {σ : Sg} : j_refused_0 (-1) σ = some (-1, rj 1 σ) := rfl
theorem jr2 {σ : Sg} : j_refused_0 (-2) σ = some (-2, rj 2 σ) := rfl
theorem jr3 {σ : Sg} : j_refused_0 (-3) σ = some (-3, rj 3 σ) := rfl
theorem jr4 {σ : Sg} : j_refused_0 (-4) σ = some (-4, rj 4 σ) := rfl
theorem jr6 {σ : Sg} : j_refused_0 (-6) σ = some (-6, rj 6 σ) := rfl
theorem jr11 {σ : Sg} : j_refused_0 (-11) σ = some (-11, σ) := rfl
theorem jr13 {σ : Sg} : j_refused_0 (-13) σ = some (-13, σ) := rfl
theorem mr1 {σ : Sg} : m_refuse_117 1 σ = some (-1, rm 1 σ) := rfl
theorem mr2 {σ : Sg} : m_refuse_117 2 σ = some (-2, rm 2 σ) := rfl
theorem mr3 {σ : Sg} : m_refuse_117 3 σ = some (-3, rm 3 σ) := rfl
theorem mr4 {σ : Sg} : m_refuse_117 4 σ = some (-4, rm 4 σ) := rfl
theorem mr6 {σ : Sg} : m_refuse_117 6 σ = some (-6, rm 6 σ) := rfl
theorem mr11 {σ : Sg} : m_refuse_117 11 σ = some (-11, σ) := rfl
theorem mr13 {σ : Sg} : m_refuse_117 13 σ = some (-13, σ) := rfl
theorem mr14 {σ : Sg} : m_refuse_117 14 σ = some (-14, σ) := rfl
theorem mr16 {σ : Sg} : m_refuse_117 16 σ = some (-16, σ) := rfl
theorem Kp_rj {k : Nat} {σ : Sg} (c : Nat) (hc : c ≠ 116) : (rj k σ).1 c = σ.1 c := si_c hc
theorem VV_ref {n q ver k : Nat} {σ τ : Sg} (hk : 1 ≤ k) (hk' : k ≤ 6) (h : VV n q ver σ) (g : Kp (rj k σ) τ) : VV n q ver (rm k τ) := by
  have key : VV n q ver (rm k (rj k σ)) := by
    obtain ⟨a1, a2, a3, a4, a5, a6, a7, a8, a9, a10, a11, a12, a13⟩ := h
    have e : ∀ c, c ≠ 116 → c ≠ 120 → (rm k (rj k σ)).1 c = σ.1 c := fun c h1 h2 => by unfold rm rj; rw [si_c h2, si_c h1]
    have e2 : ∀ c, (rm k (rj k σ)).2 c = σ.2 c := fun c => rfl
    refine ⟨a1, a2, a3, MR_fr a3 a4 (e 118 (by omega) (by omega)) (fun c _ _ => e c (by omega) (by omega)), IM_fr a5 (by rw [e 0 (by omega) (by omega)]) (fun c _ _ => e c (by omega) (by omega)) (e 119 (by omega) (by omega)) (by rw [e 117 (by omega) (by omega)]), LR_fr a6 (by rw [e 0 (by omega) (by omega)]) (e 107 (by omega) (by omega)) (e 121 (by omega) (by omega)) (by rw [e 117 (by omega) (by omega)]), LI_fr a7 (fun c _ _ => e c (by omega) (by omega)) (e 126 (by omega) (by omega)) (e 127 (by omega) (by omega)), ?_, HR_fr a9 (fun c _ _ => e c (by omega) (by omega)) (e 122 (by omega) (by omega)) (by rw [e 117 (by omega) (by omega)]), SP_fr a3 a10 (e 118 (by omega) (by omega)) (fun c _ _ => ⟨e c (by omega) (by omega), e2 c⟩), by rw [e 51 (by omega) (by omega)]; exact a11, CCh_fr a12 (e 70 (by omega) (by omega)) (e 118 (by omega) (by omega)), CSe_fr a13 (e 80 (by omega) (by omega)) (e 81 (by omega) (by omega)) (e 104 (by omega) (by omega)) (e 118 (by omega) (by omega))⟩
    intro j hj hj'
    have w := a8 j hj hj'
    unfold rm rj
    rw [si_c (by omega : (116 : Nat) ≠ 120)]
    by_cases h : j = k
    · subst h
      rw [si_e, si_e, si_c (by omega : (120 : Nat) ≠ 116), w]
    · rw [si_j h, si_j h, si_c (by omega : (120 : Nat) ≠ 116), w]
  refine VV_kp key ⟨fun c hc => ?_, ?_, ?_, ?_⟩
  · by_cases h : c = 120
    · subst h
      refine ⟨?_, (g.1 120 (by unfold kp; omega)).2⟩
      have w := (g.1 120 (by unfold kp; omega)).1
      funext j
      unfold rm
      by_cases hj : j = k
      · subst hj; rw [si_e, si_e, w]
      · rw [si_j hj, si_j hj, w]
    · unfold rm
      rw [si_c h, si_c h]
      exact g.1 c hc
  · unfold rm; rw [si_c (by omega), si_c (by omega)]; exact g.2.1
  · unfold rm; rw [si_c (by omega), si_c (by omega)]; exact g.2.2.1
  · unfold rm; rw [si_c (by omega), si_c (by omega)]; exact g.2.2.2
/-- both refuse, and go on -/
theorem fin_ref {n q ver k : Nat} {σ τ0 τ : Sg} (hn : n < 512) (hk : 1 ≤ k) (hk' : k ≤ 6) (h : VV n q ver σ) (k0 : Kp σ τ0) (k1 : Kp (rj k τ0) τ) : VI (n + 1) (rm k τ) :=
  ⟨q, ver, VV_up hn (VV_ref hk hk' (VV_kp h k0) k1)⟩
theorem fin_kp {n q ver : Nat} {σ τ : Sg} (hn : n < 512) (h : VV n q ver σ) (k0 : Kp σ τ) : VI (n + 1) τ := ⟨q, ver, VV_up hn (VV_kp h k0)⟩
theorem v_118 {n q ver : Nat} {σ : Sg} (h : VV n q ver σ) : q ≤ 8 ∧ σ.1 1 0 = nI q ∧ σ.1 118 0 = nI q := ⟨h.2.2.1, h.2.2.2.1.1, h.2.2.2.1.2.1⟩
theorem rj_c {k c : Nat} {σ : Sg} (h : c ≠ 116) : (rj k σ).1 c = σ.1 c := si_c h
