/-! ===== PURE: loops that count up; DIMENSIONS measured ===== -/
theorem loopQ {S R : Type} (L : Nat → Nat → S → R) (N : Nat) (P : Nat → S → Prop) (Q : R → Prop) (hs : ∀ n k s, k < N → P k s → (∃ s', L (n + 1) k s = L n (k + 1) s' ∧ P (k + 1) s') ∨ Q (L (n + 1) k s)) (he : ∀ n s, P N s → Q (L (n + 1) N s)) : ∀ d n k s, k + d = N → d < n → P k s → Q (L n k s)
  | 0, n, k, s, hk, hn, hP => by
    obtain ⟨n, rfl⟩ : ∃ m, n = m + 1 := ⟨n - 1, by omega⟩
    obtain rfl : k = N := by omega
    exact he n s hP
  | d + 1, n, k, s, hk, hn, hP => by
    obtain ⟨n, rfl⟩ : ∃ m, n = m + 1 := ⟨n - 1, by omega⟩
    rcases hs n k s (by omega) hP with ⟨s', e, hP'⟩ | h
    · rw [e]; exact loopQ L N P Q hs he d n (k + 1) s' (by omega) (by omega) hP'
    · exact h
theorem loopE {S R : Type} (L : Nat → Nat → S → R) (N : Nat) (P : Nat → S → Prop) (Q : R → Prop) (hs : ∀ n k s, k < N → P k s → ∃ s', L (n + 1) k s = L n (k + 1) s' ∧ P (k + 1) s') (he : ∀ n s, P N s → Q (L (n + 1) N s)) {s : S} (hN : N < fu) (h0 : P 0 s) : Q (L fu 0 s) :=
  loopQ L N P Q (fun n k s hk hP => Or.inl (hs n k s hk hP)) he N fu 0 s (by omega) hN h0
theorem fu_lt {n : Nat} (h : n < 20000) : n < fu := h
theorem FR_1 {c c' : Nat} (h : c ≠ c') : ([c'] : List Nat).contains c = false := by simp [h]
theorem FR_0 (c : Nat) : ([c] : List Nat).contains c = true := by simp
theorem mpw {σ : Sg} {k u : Nat} (hk : k < 8) (hu : u < 5) : m_powerOf_117 (nI k) (nI u) σ = some (dm σ k u, σ) := by
  have i1 : (9 + (5 : Int32) * nI k) + nI u = nI (9 + 5 * k + u) := by
    rw [show (5 : Int32) = nI 5 from rfl, nI_mul, show (9 : Int32) = nI 9 from rfl, nI_add, nI_add]
  have i2 : (1 : Int32) + nI k = nI (1 + k) := by rw [show (1 : Int32) = nI 1 from rfl, nI_add]
  unfold m_powerOf_117 m_powerOf_117_b68 m_powerOf_117_b81 m_powerOf_117_b105 m_powerOf_117_b124
  rw [i1, i2, inB_t (by omega) (by omega), inB_t (by omega) (by omega), gd_t, gd_t, cl_n (by omega), cl_n (by omega)]
  unfold dm pw
  generalize σ.1 118 (1 + k) = κ
  generalize hv : σ.1 118 (9 + 5 * k + u) = v
  have e1 : (nI u = 1) = (u = 1) := propext (nI_eq (b := 1) (by omega) (by omega))
  have e2 : (nI u = 2) = (u = 2) := propext (nI_eq (b := 2) (by omega) (by omega))
  simp only [e1, e2]
  by_cases k1 : κ = 1
  · rw [if_pos k1, if_pos k1]; split <;> rfl
  · rw [if_neg k1, if_neg k1]
    by_cases k2 : κ = 2
    · rw [if_pos k2, if_pos k2]; split <;> rfl
    · rw [if_neg k2, if_neg k2]
      by_cases k3 : κ = 3
      · rw [if_pos k3, if_pos k3]
        by_cases u1 : u = 1
        · rw [if_pos u1, if_pos u1]
        · rw [if_neg u1, if_neg u1]; split <;> rfl
      · rw [if_neg k3, if_neg k3]
        by_cases k4 : κ = 4
        · rw [if_pos k4, if_pos k4]
        · rw [if_neg k4, if_neg k4]
          by_cases k5 : κ = 5
          · rw [if_pos k5, if_pos k5]; split <;> rfl
          · rw [if_neg k5, if_neg k5]
theorem sv_1 : ∀ κ, κ < 6 → sv 1001 κ = (if κ = 2 then 1 else if κ = 3 then 2 else if κ = 5 then 1 else 0) ∧ sv 1002 κ = (if κ = 1 then 1 else if κ = 3 then 1 else 0) ∧ sv 1003 κ = (if κ = 4 then 0 else if κ = 5 then 2 else 1) := by decide +kernel
theorem lt6 {k : Nat} (h : k < 6) : k = 0 ∨ k = 1 ∨ k = 2 ∨ k = 3 ∨ k = 4 ∨ k = 5 := by omega
def lss (κ u : Nat) : Int32 := if u = 1 then sv 1001 κ else if u = 2 then sv 1002 κ else 0
theorem sb0 (v : Int32) : v - 0 = v := by grind
theorem ml1 (v : Int32) : v * 1 = v := by grind
theorem ml0 (v : Int32) : v * 0 = 0 := by grind
theorem ml2 (v : Int32) : (v - 1) * 2 = 2 * v - 2 := by grind
theorem ml3 (v : Int32) : v * 2 = 2 * v := by grind
theorem pv_pw {κ u : Nat} (hκ : κ < 6) (hu : u < 5) (v : Int32) : (v - lss κ u) * sv 1003 κ = pw (nI κ) u v := by
  have e1 : (nI κ = 1) = (κ = 1) := propext (nI_eq (b := 1) (by omega) (by omega))
  have e2 : (nI κ = 2) = (κ = 2) := propext (nI_eq (b := 2) (by omega) (by omega))
  have e3 : (nI κ = 3) = (κ = 3) := propext (nI_eq (b := 3) (by omega) (by omega))
  have e4 : (nI κ = 4) = (κ = 4) := propext (nI_eq (b := 4) (by omega) (by omega))
  have e5 : (nI κ = 5) = (κ = 5) := propext (nI_eq (b := 5) (by omega) (by omega))
  unfold lss pw
  rw [(sv_1 κ hκ).1, (sv_1 κ hκ).2.1, (sv_1 κ hκ).2.2]
  simp only [e1, e2, e3, e4, e5]
  clear e1 e2 e3 e4 e5
  rcases lt6 hκ with rfl | rfl | rfl | rfl | rfl | rfl
  · simp
  · by_cases h1 : u = 1
    · subst h1; simp
    · by_cases h2 : u = 2
      · subst h2; simp
      · simp [h1, h2]
  · by_cases h1 : u = 1
    · subst h1; simp
    · by_cases h2 : u = 2
      · subst h2; simp
      · simp [h1, h2]
  · by_cases h1 : u = 1
    · subst h1; simp
    · by_cases h2 : u = 2
      · subst h2; simp
      · simp [h1, h2]
  · simp
  · by_cases h1 : u = 1
    · subst h1; simp; grind
    · by_cases h2 : u = 2
      · subst h2; simp; grind
      · simp [h1, h2]; grind
theorem c_0 : Int32.toNatClampNeg 0 = 0 := by decide
theorem c_1 : Int32.toNatClampNeg 1 = 1 := by decide
theorem c_2 : Int32.toNatClampNeg 2 = 2 := by decide
theorem c_5 : Int32.toNatClampNeg 5 = 5 := by decide
theorem lss1 (κ : Nat) : lss κ 1 = sv 1001 κ := by unfold lss; rw [if_pos rfl]
theorem lss2 (κ : Nat) : lss κ 2 = sv 1002 κ := by unfold lss; rw [if_neg (by decide), if_pos rfl]
theorem lss0 (κ : Nat) {u : Nat} (h1 : u ≠ 1) (h2 : u ≠ 2) : lss κ u = 0 := by unfold lss; rw [if_neg h1, if_neg h2]
theorem cp_ok {k : Nat} (hk : k < 8) : cpB (3 + 1 + k) (52 + 1 + k) 0 0 5 = true := by
  unfold cpB
  rw [(ckT_told k hk).1, (ckT_told k hk).2, (ckT_pow k hk).1, (ckT_pow k hk).2]
  decide
theorem jsp_loop {κ k : Nat} (hκ : κ < 6) (hk : k < 8) {σ σ0 : Sg} (hF : FR [52 + 1 + k] σ σ0) (h0 : ∀ u, u < 5 → σ0.1 (52 + 1 + k) u = σ.1 (3 + 1 + k) u - lss κ u) : ∃ σ', j_setPowers_x_x_L32 fu (nI κ) (52 + 1 + k) 0 σ0 = some ((), σ') ∧ FR [52 + 1 + k] σ σ' ∧ ∀ u, u < 5 → σ'.1 (52 + 1 + k) u = pw (nI κ) u (σ.1 (3 + 1 + k) u) := by
  have i0 : inB (nI κ) 6 = true := inB_t hκ (by omega)
  refine loopE (L := fun n i s => j_setPowers_x_x_L32 n (nI κ) (52 + 1 + k) (nI i) s) (N := 5) (P := fun i τ => FR [52 + 1 + k] σ τ ∧ ∀ u, u < 5 → τ.1 (52 + 1 + k) u = if u < i then pw (nI κ) u (σ.1 (3 + 1 + k) u) else σ.1 (3 + 1 + k) u - lss κ u) (Q := fun r => ∃ σ', r = some ((), σ') ∧ FR [52 + 1 + k] σ σ' ∧ ∀ u, u < 5 → σ'.1 (52 + 1 + k) u = pw (nI κ) u (σ.1 (3 + 1 + k) u)) ?_ ?_ (by decide) ⟨hF, fun u hu => (h0 u hu).trans (if_neg (Nat.not_lt_zero u)).symm⟩
  · rintro n i τ hi ⟨f, g⟩
    refine ⟨si τ (52 + 1 + k) i (pw (nI κ) i (σ.1 (3 + 1 + k) i)), ?_, FR_si f (FR_0 _), ?_⟩
    · show j_setPowers_x_x_H32 (j_setPowers_x_x_L32 n) (nI κ) (52 + 1 + k) (nI i) τ = _
      unfold j_setPowers_x_x_H32
      rw [if_neg (show ¬ (5 : Int32) ≤ nI i from nI_ge (b := 5) hi (by decide)), ar_pow hk hi, i0, cl_n (by omega), cl_n (by omega), g i hi, if_neg (Nat.lt_irrefl i), pv_pw hκ hi, nI_1, gd_t, gd_t, gd_t]
    · intro u hu
      by_cases e : u = i
      · subst e; rw [si_e, if_pos (by omega)]
      · rw [si_j e, g u hu]
        by_cases e2 : u < i
        · rw [if_pos e2, if_pos (by omega)]
        · rw [if_neg e2, if_neg (by omega)]
  · rintro n τ ⟨f, g⟩
    refine ⟨τ, ?_, f, fun u hu => (g u hu).trans (if_pos hu)⟩
    show j_setPowers_x_x_H32 (j_setPowers_x_x_L32 n) (nI κ) (52 + 1 + k) (nI 5) τ = _
    unfold j_setPowers_x_x_H32
    rw [if_pos (show (5 : Int32) ≤ nI 5 by decide)]
theorem jsp {κ k : Nat} (hκ : κ < 6) (hk : k < 8) (σ : Sg) : ∃ σ', j_setPowers_x_x (nI κ) (3 + 1 + k) (52 + 1 + k) σ = some ((), σ') ∧ FR [52 + 1 + k] σ σ' ∧ ∀ u, u < 5 → σ'.1 (52 + 1 + k) u = pw (nI κ) u (σ.1 (3 + 1 + k) u) := by
  have i0 : inB (nI κ) 6 = true := inB_t hκ (by omega)
  have a1 : arB 0 (52 + 1 + k) 1 = true := ar_pow (j := 1) hk (by omega)
  have a2 : arB 0 (52 + 1 + k) 2 = true := ar_pow (j := 2) hk (by omega)
  unfold j_setPowers_x_x
  rw [cp_ok hk, a1, a2, i0, cl_n (by omega)]
  rw [gd_t, gd_t, gd_t, gd_t, gd_t, gd_t, gd_t]
  have hcp : ∀ u, u < 5 → (scp σ (3 + 1 + k) (52 + 1 + k) 0 0 5).1 (52 + 1 + k) u = σ.1 (3 + 1 + k) u := by
    intro u hu
    rw [sc_i (by omega) (by omega), show 0 + (u - 0) = u by omega]
  have hFc : FR [52 + 1 + k] σ (scp σ (3 + 1 + k) (52 + 1 + k) 0 0 5) := FR_sc (FR_refl _ _) (FR_0 _)
  generalize scp σ (3 + 1 + k) (52 + 1 + k) 0 0 5 = ρ at hcp hFc ⊢
  refine jsp_loop hκ hk (FR_si (FR_si hFc (FR_0 _)) (FR_0 _)) ?_
  intro u hu
  rw [← hcp u hu]
  by_cases h2 : u = 2
  · subst h2; rw [si_e, si_j (by decide), lss2]
  · rw [si_j h2]
    by_cases h1 : u = 1
    · subst h1; rw [si_e, lss1]
    · rw [si_j h1, lss0 κ h1 h2, sb0]
def kyn (f : Nat → Int32) : Nat → Int64
  | 0 => 0
  | i + 1 => kyn f i * 4096 + (f i).toInt64
theorem ky_n (f : Nat → Int32) : ky f = kyn f 5 := rfl
theorem jky {k : Nat} (hk : k < 8) (σ : Sg) : j_keyOf_x (52 + 1 + k) σ = some (ky (σ.1 (52 + 1 + k)), σ) := by
  unfold j_keyOf_x
  rw [show ckB (52 + 1 + k) = true by unfold ckB; rw [(ckT_pow k hk).1]; rfl, (ckT_pow k hk).2, gd_t]
  refine loopE (L := fun n i s => j_keyOf_x_L11 n s (52 + 1 + k) (nI 5) (nI i) σ) (N := 5) (P := fun i s => s = kyn (σ.1 (52 + 1 + k)) i) (Q := fun r => r = some (ky (σ.1 (52 + 1 + k)), σ)) ?_ ?_ (by decide) rfl
  · rintro n i s hi rfl
    refine ⟨_, ?_, rfl⟩
    show j_keyOf_x_H11 (j_keyOf_x_L11 n) _ (52 + 1 + k) (nI 5) (nI i) σ = _
    unfold j_keyOf_x_H11
    rw [if_neg (nI_ge hi (by decide)), ar_pow hk hi, gd_t, cl_n (by omega), nI_1]
    rfl
  · rintro n s rfl
    show j_keyOf_x_H11 (j_keyOf_x_L11 n) _ (52 + 1 + k) (nI 5) (nI 5) σ = _
    unfold j_keyOf_x_H11
    rw [if_pos (show nI 5 ≤ nI 5 by decide)]; rfl
