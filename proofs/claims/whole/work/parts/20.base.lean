/-! ===== PURE: reading and writing the store; numbers ===== -/
theorem si_e {σ : Sg} {c j : Nat} {x : Int32} : (si σ c j x).1 c j = x := by simp [si, upd]
theorem si_c {σ : Sg} {c j c' : Nat} {x : Int32} (h : c' ≠ c) : (si σ c j x).1 c' = σ.1 c' := by simp [si, h]
theorem si_j {σ : Sg} {c j c' j' : Nat} {x : Int32} (h : j' ≠ j) : (si σ c j x).1 c' j' = σ.1 c' j' := by
  unfold si upd
  by_cases hc : c' = c <;> simp [hc, h]
theorem si_l {σ : Sg} {c j : Nat} {x : Int32} : (si σ c j x).2 = σ.2 := rfl
theorem sl_e {σ : Sg} {c j : Nat} {x : Int64} : (sl σ c j x).2 c j = x := by simp [sl, vp_updL]
theorem sl_c {σ : Sg} {c j c' : Nat} {x : Int64} (h : c' ≠ c) : (sl σ c j x).2 c' = σ.2 c' := by simp [sl, h]
theorem sl_j {σ : Sg} {c j c' j' : Nat} {x : Int64} (h : j' ≠ j) : (sl σ c j x).2 c' j' = σ.2 c' j' := by
  unfold sl vp_updL
  by_cases hc : c' = c <;> simp [hc, h]
theorem sl_i {σ : Sg} {c j : Nat} {x : Int64} : (sl σ c j x).1 = σ.1 := rfl
theorem sc_c {σ : Sg} {c0 c1 sp dp n c : Nat} (h : c ≠ c1) : (scp σ c0 c1 sp dp n).1 c = σ.1 c := by simp [scp, h]
theorem sc_l {σ : Sg} {c0 c1 sp dp n : Nat} : (scp σ c0 c1 sp dp n).2 = σ.2 := rfl
theorem sc_i {σ : Sg} {c0 c1 sp dp n j : Nat} (h1 : dp ≤ j) (h2 : j < dp + n) : (scp σ c0 c1 sp dp n).1 c1 j = σ.1 c0 (sp + (j - dp)) := by
  simp [scp, va_cpy, h1, h2]
theorem sc_o {σ : Sg} {c0 c1 sp dp n j : Nat} (h : j < dp ∨ dp + n ≤ j) : (scp σ c0 c1 sp dp n).1 c1 j = σ.1 c1 j := by
  unfold scp va_cpy
  simp only [if_true]
  rw [if_neg (by omega)]
theorem gd_t {α : Type} {x : Option α} : gd true x = x := rfl
theorem bd_s {α β : Type} {a : α} {s : Sg} {f : α → Sg → Option β} : bd (some (a, s)) f = f a s := rfl
theorem litI (n : Nat) : (@OfNat.ofNat Int32 n Int32.instOfNat) = nI (@OfNat.ofNat Nat n (instOfNatNat n)) := rfl
theorem inB_t {k n : Nat} (h : k < n) (hk : k < 2 ^ 31) : inB (nI k) n = true := by
  unfold inB
  have h1 : ¬ nI k < 0 := nI_pos hk
  rw [decide_eq_false h1, nI_clamp hk]
  simp [Nat.blt_eq.mpr h]
theorem cl_n {k : Nat} (h : k < 2 ^ 31) : (nI k).toNatClampNeg = k := nI_clamp h
theorem ar_t {k c j n : Nat} (h1 : ck c = k) (h2 : al c = n) (h3 : j < n) (hj : j < 2 ^ 31) : arB k c (nI j) = true := by
  unfold arB
  rw [h1, h2, inB_t h3 hj]
  simp
theorem ckT_told : ∀ k, k < 8 → ck (3 + 1 + k) = 0 ∧ al (3 + 1 + k) = 5 := by decide +kernel
theorem ckT_toldi : ∀ k, k < 8 → ck (17 + 1 + k) = 0 ∧ al (17 + 1 + k) = 5 := by decide +kernel
theorem ckT_hist : ∀ k, k < 20 → ck (30 + 1 + k) = 0 ∧ al (30 + 1 + k) = 4 := by decide +kernel
theorem ckT_pow : ∀ k, k < 8 → ck (52 + 1 + k) = 0 ∧ al (52 + 1 + k) = 5 := by decide +kernel
theorem ckT_all : ∀ k, k < 5 → ck (63 + 1 + k) = 1 ∧ al (63 + 1 + k) = 8 := by decide +kernel
theorem ckT_cho : ∀ k, k < 5 → ck (72 + 1 + k) = 1 ∧ al (72 + 1 + k) = 8 := by decide +kernel
theorem ckT_sum : ∀ k, k < 7 → ck (88 + 1 + k) = 0 ∧ al (88 + 1 + k) = 5 := by decide +kernel
theorem ckT_prd : ∀ k, k < 7 → ck (96 + 1 + k) = 0 ∧ al (96 + 1 + k) = 5 := by decide +kernel
theorem ckT_lis : ∀ k, k < 3 → ck (108 + 1 + k) = 0 ∧ al (108 + 1 + k) = 40 := by decide +kernel
theorem ar_told {k j : Nat} (h : k < 8) (hj : j < 5) : arB 0 (3 + 1 + k) (nI j) = true := ar_t (ckT_told k h).1 (ckT_told k h).2 hj (by omega)
theorem ar_toldi {k j : Nat} (h : k < 8) (hj : j < 5) : arB 0 (17 + 1 + k) (nI j) = true := ar_t (ckT_toldi k h).1 (ckT_toldi k h).2 hj (by omega)
theorem ar_hist {k j : Nat} (h : k < 20) (hj : j < 4) : arB 0 (30 + 1 + k) (nI j) = true := ar_t (ckT_hist k h).1 (ckT_hist k h).2 hj (by omega)
theorem ar_pow {k j : Nat} (h : k < 8) (hj : j < 5) : arB 0 (52 + 1 + k) (nI j) = true := ar_t (ckT_pow k h).1 (ckT_pow k h).2 hj (by omega)
theorem ar_all {k j : Nat} (h : k < 5) (hj : j < 8) : arB 1 (63 + 1 + k) (nI j) = true := ar_t (ckT_all k h).1 (ckT_all k h).2 hj (by omega)
theorem ar_cho {k j : Nat} (h : k < 5) (hj : j < 8) : arB 1 (72 + 1 + k) (nI j) = true := ar_t (ckT_cho k h).1 (ckT_cho k h).2 hj (by omega)
theorem ar_sum {k j : Nat} (h : k < 7) (hj : j < 5) : arB 0 (88 + 1 + k) (nI j) = true := ar_t (ckT_sum k h).1 (ckT_sum k h).2 hj (by omega)
theorem ar_prd {k j : Nat} (h : k < 7) (hj : j < 5) : arB 0 (96 + 1 + k) (nI j) = true := ar_t (ckT_prd k h).1 (ckT_prd k h).2 hj (by omega)
theorem ar_lis {k j : Nat} (h : k < 3) (hj : j < 40) : arB 0 (108 + 1 + k) (nI j) = true := ar_t (ckT_lis k h).1 (ckT_lis k h).2 hj (by omega)
/-! an int is within, or not -/
def out (a : Int32) (q : Nat) : Prop := a < 0 ∨ nI q ≤ a
theorem in_out (a : Int32) {q : Nat} (hq : q < 2 ^ 31) : out a q ∨ ∃ k, k < q ∧ a = nI k := by
  rcases pk_ix a hq with h | h | h
  · exact Or.inl (Or.inl h)
  · exact Or.inl (Or.inr h)
  · exact Or.inr h
theorem out_lt {a : Int32} {q : Nat} (hq : q < 2 ^ 31) (h : out a q) : a.toInt < 0 ∨ (q : Int) ≤ a.toInt := by
  rcases h with h | h
  · left; simpa using Int32.lt_iff_toInt_lt.mp h
  · right; have := Int32.le_iff_toInt_le.mp h; rwa [nI_toInt hq] at this
theorem out_of {a : Int32} {q : Nat} (hq : q < 2 ^ 31) (h : a.toInt < 0 ∨ (q : Int) ≤ a.toInt) : out a q := by
  rcases h with h | h
  · left; exact Int32.lt_iff_toInt_lt.mpr (by simpa using h)
  · right; exact Int32.le_iff_toInt_le.mpr (by rw [nI_toInt hq]; exact h)
/-- 'a' is at least 0 and below q -/
theorem t_in {a : Int32} {q k : Nat} (hk : k < q) (hq : q < 2 ^ 31) (h : a = nI k) : ¬ a < 0 ∧ 0 ≤ a ∧ a < nI q ∧ ¬ nI q ≤ a := by
  subst h
  have h0 : (nI k).toInt = (k : Int) := nI_toInt (by omega)
  have h1 : (nI q).toInt = (q : Int) := nI_toInt hq
  have z : (0 : Int32).toInt = 0 := by decide
  refine ⟨fun h => ?_, ?_, ?_, fun h => ?_⟩
  · have := Int32.lt_iff_toInt_lt.mp h; rw [h0, z] at this; omega
  · exact Int32.le_iff_toInt_le.mpr (by rw [h0, z]; omega)
  · exact Int32.lt_iff_toInt_lt.mpr (by rw [h0, h1]; omega)
  · have := Int32.le_iff_toInt_le.mp h; rw [h0, h1] at this; omega
theorem cmp_lt {x y : Int64} : lg_cmp x y < 0 ↔ x < y := by
  unfold lg_cmp
  by_cases h1 : x > y
  · rw [if_pos h1]
    constructor
    · intro h; exact absurd h (by decide)
    · intro h; exact absurd (Int64.lt_trans h h1) (Int64.lt_irrefl)
  · rw [if_neg h1]
    by_cases h2 : x = y
    · rw [if_pos h2]
      constructor
      · intro h; exact absurd h (by decide)
      · intro h; rw [h2] at h; exact absurd h Int64.lt_irrefl
    · rw [if_neg h2]
      constructor
      · intro _
        rcases Int64.lt_or_eq_of_le (Int64.not_lt.mp h1) with q | q
        · exact q
        · exact absurd q h2
      · intro _; decide
theorem cmp_gt {x y : Int64} : 0 < lg_cmp x y ↔ y < x := by
  unfold lg_cmp
  by_cases h1 : x > y
  · rw [if_pos h1]
    exact ⟨fun _ => h1, fun _ => by decide⟩
  · rw [if_neg h1]
    by_cases h2 : x = y
    · rw [if_pos h2]
      exact ⟨fun h => absurd h (by decide), fun h => absurd h h1⟩
    · rw [if_neg h2]
      exact ⟨fun h => absurd h (by decide), fun h => absurd h h1⟩
theorem cmp_eq {x y : Int64} : lg_cmp x y = 0 ↔ x = y := by
  unfold lg_cmp
  by_cases h1 : x > y
  · rw [if_pos h1]
    exact ⟨fun h => absurd h (by decide), fun h => by rw [h] at h1; exact absurd h1 Int64.lt_irrefl⟩
  · rw [if_neg h1]
    by_cases h2 : x = y
    · rw [if_pos h2]
      exact ⟨fun _ => h2, fun _ => rfl⟩
    · rw [if_neg h2]
      exact ⟨fun h => absurd h (by decide), fun h => absurd h h2⟩
def b01 (p : Prop) [Decidable p] : Int32 := if p then 1 else 0
theorem isIn_eq (x a b : Int64) (σ : Sg) : m_isIn_s x a b σ = some (if a ≤ x ∧ x ≤ b then 1 else 0, σ) := by
  unfold m_isIn_s m_isIn_s_b17 m_isIn_s_b18
  have n1 : nbB 0 = true := by decide
  have n2 : nbB 1 = true := by decide
  by_cases h1 : x < a
  · rw [if_pos (cmp_lt.mpr h1), if_neg (fun h => absurd h1 (Int64.not_lt.mpr h.1)), n1]
    rfl
  · rw [if_neg (fun h => h1 (cmp_lt.mp h))]
    by_cases h2 : b < x
    · rw [if_pos (cmp_gt.mpr h2), if_neg (fun h => absurd h2 (Int64.not_lt.mpr h.2)), n1]
      rfl
    · rw [if_neg (fun h => h2 (cmp_gt.mp h)), if_pos ⟨Int64.not_lt.mp h1, Int64.not_lt.mp h2⟩, n2]
      rfl
theorem i2l_le {x y : Int32} : x.toInt64 ≤ y.toInt64 ↔ x ≤ y := by
  rw [Int64.le_iff_toInt_le, Int32.le_iff_toInt_le, Int32.toInt_toInt64, Int32.toInt_toInt64]
/-- isIn of ints -/
theorem isInI (x a b : Int32) (σ : Sg) : m_isIn_s x.toInt64 a.toInt64 b.toInt64 σ = some (if a ≤ x ∧ x ≤ b then 1 else 0, σ) := by
  rw [isIn_eq]
  simp only [i2l_le]
