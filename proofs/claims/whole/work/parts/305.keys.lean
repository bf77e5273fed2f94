/-! ===== PURE: keys tell DIMENSIONS apart ===== -/
def Kz (v : Nat → Int) : Int := (((v 0 * 4096 + v 1) * 4096 + v 2) * 4096 + v 3) * 4096 + v 4
theorem Kz_le {v : Nat → Int} (h : ∀ u, u < 5 → (v u).natAbs ≤ 2000) : (Kz v).natAbs ≤ 600000000000000000 := by
  have h0 := h 0 (by omega)
  have h1 := h 1 (by omega)
  have h2 := h 2 (by omega)
  have h3 := h 3 (by omega)
  have h4 := h 4 (by omega)
  unfold Kz
  omega
theorem Kz_0 {v : Nat → Int} (h : ∀ u, u < 5 → (v u).natAbs ≤ 2000) : Kz v = 0 ↔ ∀ u, u < 5 → v u = 0 := by
  have h0 := h 0 (by omega)
  have h1 := h 1 (by omega)
  have h2 := h 2 (by omega)
  have h3 := h 3 (by omega)
  have h4 := h 4 (by omega)
  unfold Kz
  constructor
  · intro e u hu
    have e4 : v 4 = 0 := by omega
    have e3 : v 3 = 0 := by omega
    have e2 : v 2 = 0 := by omega
    have e1 : v 1 = 0 := by omega
    have e0 : v 0 = 0 := by omega
    rcases lt5 hu with rfl | rfl | rfl | rfl | rfl <;> assumption
  · intro e
    rw [e 0 (by omega), e 1 (by omega), e 2 (by omega), e 3 (by omega), e 4 (by omega)]; rfl
theorem Kz_add (v w : Nat → Int) : Kz (fun u => v u + w u) = Kz v + Kz w := by unfold Kz; dsimp only; grind
theorem Kz_sub (v w : Nat → Int) : Kz (fun u => v u - w u) = Kz v - Kz w := by unfold Kz; dsimp only; grind
theorem Kz_mul (a : Int) (v : Nat → Int) : Kz (fun u => a * v u) = a * Kz v := by unfold Kz; dsimp only; grind
theorem Kz_cg {v w : Nat → Int} (h : ∀ u, u < 5 → v u = w u) : Kz v = Kz w := by
  unfold Kz
  rw [h 0 (by omega), h 1 (by omega), h 2 (by omega), h 3 (by omega), h 4 (by omega)]
theorem L_4096 : (4096 : Int64).toInt = 4096 := by decide
theorem ky_int {f : Nat → Int32} (h : ∀ u, u < 5 → (f u).toInt.natAbs ≤ 2000) : (ky f).toInt = Kz (fun u => (f u).toInt) := by
  have h0 := h 0 (by omega)
  have h1 := h 1 (by omega)
  have h2 := h 2 (by omega)
  have h3 := h 3 (by omega)
  have h4 := h 4 (by omega)
  have z : (0 : Int64).toInt = 0 := L_0
  unfold ky Kz
  have m0 : ((0 : Int64) * 4096).toInt = 0 * 4096 := L_mul z L_4096 (by omega) (by omega)
  have a0 := L_add m0 (Int32.toInt_toInt64 (f 0)) (by omega) (by omega)
  have m1 := L_mul a0 L_4096 (by omega) (by omega)
  have a1 := L_add m1 (Int32.toInt_toInt64 (f 1)) (by omega) (by omega)
  have m2 := L_mul a1 L_4096 (by omega) (by omega)
  have a2 := L_add m2 (Int32.toInt_toInt64 (f 2)) (by omega) (by omega)
  have m3 := L_mul a2 L_4096 (by omega) (by omega)
  have a3 := L_add m3 (Int32.toInt_toInt64 (f 3)) (by omega) (by omega)
  have m4 := L_mul a3 L_4096 (by omega) (by omega)
  have a4 := L_add m4 (Int32.toInt_toInt64 (f 4)) (by omega) (by omega)
  rw [a4]
  dsimp only
  omega
theorem dm_2000 {q : Nat} {σ : Sg} (h : MR 1 118 q σ) {k u : Nat} (hk : k < q) (hu : u < 5) : (dm σ k u).toInt.natAbs ≤ 20 := by
  have := dm_rng h hk hu; omega
theorem kyd {q : Nat} {σ : Sg} (h : MR 1 118 q σ) {k : Nat} (hk : k < q) : (ky (dm σ k)).toInt = Kz (fun u => (dm σ k u).toInt) :=
  ky_int (fun u hu => by have := dm_2000 h hk hu; omega)
/-- alike in every UNIT -/
def lk (σ : Sg) (a b : Nat) : Bool := decide (dm σ a 0 = dm σ b 0) && decide (dm σ a 1 = dm σ b 1) && decide (dm σ a 2 = dm σ b 2) && decide (dm σ a 3 = dm σ b 3) && decide (dm σ a 4 = dm σ b 4)
theorem lk_iff {σ : Sg} {a b : Nat} : lk σ a b = true ↔ ∀ u, u < 5 → dm σ a u = dm σ b u := by
  unfold lk
  simp only [Bool.and_eq_true, decide_eq_true_eq]
  constructor
  · rintro ⟨⟨⟨⟨h0, h1⟩, h2⟩, h3⟩, h4⟩ u hu
    rcases lt5 hu with rfl | rfl | rfl | rfl | rfl <;> assumption
  · intro h
    exact ⟨⟨⟨⟨h 0 (by omega), h 1 (by omega)⟩, h 2 (by omega)⟩, h 3 (by omega)⟩, h 4 (by omega)⟩
theorem lk_ky {q : Nat} {σ : Sg} (h : MR 1 118 q σ) {a b : Nat} (ha : a < q) (hb : b < q) : ky (dm σ a) = ky (dm σ b) ↔ lk σ a b = true := by
  rw [lk_iff]
  constructor
  · intro e u hu
    have e1 := congrArg Int64.toInt e
    rw [kyd h ha, kyd h hb] at e1
    have e2 : Kz (fun u => (dm σ a u).toInt - (dm σ b u).toInt) = 0 := by rw [Kz_sub]; omega
    have e3 := (Kz_0 (v := fun u => (dm σ a u).toInt - (dm σ b u).toInt) (fun u hu => by
      have w1 := dm_2000 h ha hu
      have w2 := dm_2000 h hb hu
      try dsimp only
      omega)).mp e2 u hu
    try dsimp only at e3
    exact Int32.toInt_inj.mp (by omega)
  · intro e
    unfold ky
    rw [e 0 (by omega), e 1 (by omega), e 2 (by omega), e 3 (by omega), e 4 (by omega)]
/-- the first one, from p on -/
def ff (P : Nat → Bool) : Nat → Nat → Option Nat
  | 0, _ => none
  | d + 1, p => if P p = true then some p else ff P d (p + 1)
theorem ff_t {P : Nat → Bool} {d p : Nat} (h : P p = true) : ff P (d + 1) p = some p := by unfold ff; rw [if_pos h]
theorem ff_f {P : Nat → Bool} {d p : Nat} (h : ¬ P p = true) : ff P (d + 1) p = ff P d (p + 1) := by
  show (if P p = true then some p else ff P d (p + 1)) = _
  rw [if_neg h]
theorem ff_some {P : Nat → Bool} : ∀ {d p x : Nat}, ff P d p = some x → p ≤ x ∧ x < p + d ∧ P x = true ∧ ∀ y, p ≤ y → y < x → P y = false
  | 0, p, x, h => by cases h
  | d + 1, p, x, h => by
    unfold ff at h
    by_cases g : P p = true
    · rw [if_pos g] at h
      obtain rfl : p = x := by simpa using h
      exact ⟨by omega, by omega, g, fun y h1 h2 => by omega⟩
    · rw [if_neg g] at h
      obtain ⟨h1, h2, h3, h4⟩ := ff_some h
      refine ⟨by omega, by omega, h3, fun y g1 g2 => ?_⟩
      by_cases e : y = p
      · subst e; simpa using g
      · exact h4 y (by omega) g2
theorem ff_none {P : Nat → Bool} : ∀ {d p : Nat}, ff P d p = none → ∀ y, p ≤ y → y < p + d → P y = false
  | 0, p, _, y, h1, h2 => by omega
  | d + 1, p, h, y, h1, h2 => by
    unfold ff at h
    by_cases g : P p = true
    · rw [if_pos g] at h; cases h
    · rw [if_neg g] at h
      by_cases e : y = p
      · subst e; simpa using g
      · exact ff_none h y (by omega) (by omega)
/-- all of them, as an int -/
def cj (b : Nat → Bool) : Nat → Int32
  | 0 => 1
  | u + 1 => cj b u &&& (if b u = true then (1 : Int32) else 0)
theorem cj_01 (b : Nat → Bool) : ∀ u, (cj b u = 1 ∧ ∀ j, j < u → b j = true) ∨ (cj b u = 0 ∧ ¬ ∀ j, j < u → b j = true)
  | 0 => Or.inl ⟨rfl, fun j h => absurd h (Nat.not_lt_zero _)⟩
  | u + 1 => by
    show ((cj b u &&& (if b u = true then (1 : Int32) else 0)) = 1 ∧ _) ∨ ((cj b u &&& (if b u = true then (1 : Int32) else 0)) = 0 ∧ _)
    rcases cj_01 b u with ⟨e, h⟩ | ⟨e, h⟩
    · rw [e]
      by_cases g : b u = true
      · rw [if_pos g]
        refine Or.inl ⟨rfl, ?_⟩
        intro j hj
        rcases Nat.lt_or_eq_of_le (Nat.le_of_lt_succ hj) with w | w
        · exact h j w
        · rw [w]; exact g
      · rw [if_neg g]
        exact Or.inr ⟨rfl, fun w => g (w u (by omega))⟩
    · rw [e]
      refine Or.inr ⟨?_, fun w => h (fun j hj => w j (by omega))⟩
      split <;> rfl
theorem cj_nb (b : Nat → Bool) (u : Nat) : nbB (cj b u) = true := by
  rcases cj_01 b u with ⟨e, _⟩ | ⟨e, _⟩ <;> rw [e] <;> decide
theorem cj_ite {b : Nat → Bool} {u : Nat} {c : Bool} (h : c = true ↔ ∀ j, j < u → b j = true) : cj b u = if c = true then 1 else 0 := by
  rcases cj_01 b u with ⟨e, g⟩ | ⟨e, g⟩
  · rw [e, if_pos (h.mpr g)]
  · rw [e, if_neg (fun w => g (h.mp w))]
theorem mlike {σ : Sg} {a b : Nat} (ha : a < 8) (hb : b < 8) : m_isLike_117 (nI a) (nI b) σ = some (if lk σ a b = true then 1 else 0, σ) := by
  have hc : cj (fun u => decide (dm σ a u = dm σ b u)) 5 = if lk σ a b = true then 1 else 0 := cj_ite (by rw [lk_iff]; simp only [decide_eq_true_eq])
  rw [← hc]
  unfold m_isLike_117
  refine loopE (L := fun k u s => m_isLike_117_L5 k (nI a) (nI b) s (nI u) σ) (N := 5) (P := fun u s => s = cj (fun u => decide (dm σ a u = dm σ b u)) u) (Q := fun r => r = some (cj (fun u => decide (dm σ a u = dm σ b u)) 5, σ)) ?_ ?_ (by decide) rfl
  · rintro k u s hu rfl
    refine ⟨_, ?_, rfl⟩
    show m_isLike_117_H5 (m_isLike_117_L5 k) _ _ _ (nI u) σ = _
    unfold m_isLike_117_H5 m_isLike_117_b34
    rw [if_neg (show ¬ (5 : Int32) ≤ nI u from nI_ge (b := 5) hu (by decide)), mpw ha hu, bd_s, mpw hb hu, bd_s, nI_1]
    show _ = m_isLike_117_L5 k (nI a) (nI b) (_ &&& (if decide (dm σ a u = dm σ b u) = true then (1 : Int32) else 0)) (nI (u + 1)) σ
    by_cases g : dm σ a u = dm σ b u
    · rw [if_pos g, if_pos (by simpa using g)]
    · rw [if_neg g, if_neg (by simpa using g)]
  · rintro k s rfl
    show m_isLike_117_H5 (m_isLike_117_L5 k) _ _ _ (nI 5) σ = _
    unfold m_isLike_117_H5
    rw [if_pos (show (5 : Int32) ≤ nI 5 by decide), cj_nb, gd_t]
/-- the twin -/
def twB (σ : Sg) (k p : Nat) : Bool := !(decide (p = k)) && lk σ p k
def tw (σ : Sg) (q k : Nat) : Int32 := match ff (twB σ k) q 0 with
  | none => -9
  | some p => nI p
theorem mtwin {q k : Nat} {σ : Sg} (hq : q ≤ 8) (h0 : σ.1 118 0 = nI q) (hk : k < q) : m_twinOf_117 (nI k) σ = some (tw σ q k, σ) := by
  unfold m_twinOf_117
  refine loopQ (fun n p (_ : Unit) => m_twinOf_117_L2 n (nI k) (nI p) σ) q (fun p _ => ff (twB σ k) q 0 = ff (twB σ k) (q - p) p) (fun r => r = some (tw σ q k, σ)) ?_ ?_ q fu 0 () (by omega) (fu_lt (by omega)) rfl
  · rintro n p _ hp g
    obtain ⟨d, hd⟩ : ∃ d, q - p = d + 1 := ⟨q - p - 1, by omega⟩
    rw [hd] at g
    have st : m_twinOf_117_L2 (n + 1) (nI k) (nI p) σ = if twB σ k p = true then some (nI p, σ) else m_twinOf_117_L2 n (nI k) (nI (p + 1)) σ := by
      show m_twinOf_117_H2 (m_twinOf_117_L2 n) (nI k) (nI p) σ = _
      unfold m_twinOf_117_H2 m_twinOf_117_b28 twB
      rw [h0, if_neg (nI_ge hp (by omega)), mlike (by omega) (by omega), bd_s, nI_1]
      by_cases e : p = k
      · subst e; rw [if_pos rfl, if_neg (by simp)]
      · rw [if_neg (fun w => e ((nI_eq (by omega) (by omega)).mp w))]
        by_cases hl : lk σ p k = true
        · rw [if_pos hl, if_neg (by decide), if_pos (by simp [e, hl])]
        · rw [if_neg hl, if_pos rfl, if_neg (by simp [hl])]
    rw [st]
    by_cases e : twB σ k p = true
    · rw [ff_t e] at g
      rw [if_pos e]
      right
      unfold tw; rw [g]
    · rw [ff_f e] at g
      rw [if_neg e]
      exact Or.inl ⟨(), rfl, by rw [g, show q - (p + 1) = d by omega]⟩
  · rintro n _ g
    rw [show q - q = 0 by omega] at g
    show m_twinOf_117_H2 (m_twinOf_117_L2 n) (nI k) (nI q) σ = _
    unfold m_twinOf_117_H2 tw
    rw [h0, if_pos (nI_le (by omega) (by omega)), g]; rfl
