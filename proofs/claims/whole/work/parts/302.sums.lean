/-! ===== PURE: sums of POWERS ===== -/
def sdp (f : Nat → Int32) (σ : Sg) (u : Nat) : Nat → Int32
  | 0 => 0
  | k + 1 => sdp f σ u k + f k * dm σ k u
def szd (f : Nat → Int32) (σ : Sg) (q : Nat) : Nat → Int32
  | 0 => 0
  | u + 1 => szd f σ q u + iabs (sdp f σ u q)
theorem sdp_cg {f f' : Nat → Int32} {σ σ' : Sg} (hd : dm σ' = dm σ) (u : Nat) : ∀ k, (∀ j, j < k → f' j = f j) → sdp f' σ' u k = sdp f σ u k
  | 0, _ => rfl
  | k + 1, h => by
    show sdp f' σ' u k + f' k * dm σ' k u = sdp f σ u k + f k * dm σ k u
    rw [sdp_cg hd u k (fun j hj => h j (by omega)), h k (by omega), hd]
theorem szd_cg {f f' : Nat → Int32} {σ σ' : Sg} {q : Nat} (hd : dm σ' = dm σ) (h : ∀ j, j < q → f' j = f j) : ∀ u, szd f' σ' q u = szd f σ q u
  | 0 => rfl
  | u + 1 => by
    show szd f' σ' q u + iabs (sdp f' σ' u q) = szd f σ q u + iabs (sdp f σ u q)
    rw [szd_cg hd h u, sdp_cg hd u q h]
theorem sdp_le {f : Nat → Int32} {σ : Sg} {q u : Nat} (hu : u < 5) (hM : MR 1 118 q σ) (hf : ∀ k, k < q → nok (f k)) : ∀ k, k ≤ q → k ≤ 8 → (sdp f σ u k).toInt.natAbs ≤ k * 1980
  | 0, _, _ => by show (0 : Int32).toInt.natAbs ≤ 0 * 1980; decide
  | k + 1, hk, hk8 => by
    have ih := sdp_le hu hM hf k (by omega) (by omega)
    have hd := dm_rng hM (show k < q by omega) hu
    have hx := nok_int (hf k (by omega))
    have hp : ((f k).toInt * (dm σ k u).toInt).natAbs ≤ 1980 := by
      rw [Int.natAbs_mul]
      exact Nat.mul_le_mul (show (f k).toInt.natAbs ≤ 99 by omega) (show (dm σ k u).toInt.natAbs ≤ 20 by omega)
    have hm : (f k * dm σ k u).toInt = (f k).toInt * (dm σ k u).toInt := by
      rw [Int32.toInt_mul]; exact bm32 (by omega) (by omega)
    show (sdp f σ u k + f k * dm σ k u).toInt.natAbs ≤ _
    rw [Int32.toInt_add, hm, bm32 (by omega) (by omega)]
    omega
theorem iabs_int {x : Int32} (h : -2147483648 < x.toInt) : (iabs x).toInt = (x.toInt.natAbs : Int) := by
  have hr := I_rng x
  have z : (0 : Int32).toInt = 0 := by decide
  unfold iabs
  by_cases g : 0 ≤ x
  · have := Int32.le_iff_toInt_le.mp g
    rw [if_pos g]; omega
  · have : ¬ (0 : Int32).toInt ≤ x.toInt := fun e => g (Int32.le_iff_toInt_le.mpr e)
    rw [if_neg g, Int32.toInt_sub, z, bm32 (by omega) (by omega)]; omega
theorem szd_le {f : Nat → Int32} {σ : Sg} {q : Nat} (hq : q ≤ 8) (hM : MR 1 118 q σ) (hf : ∀ k, k < q → nok (f k)) : ∀ u, u ≤ 5 → 0 ≤ (szd f σ q u).toInt ∧ (szd f σ q u).toInt ≤ u * 15840 ∧ ((szd f σ q u).toInt = 0 ↔ ∀ j, j < u → sdp f σ j q = 0)
  | 0, _ => ⟨by show 0 ≤ (0 : Int32).toInt; decide, by show (0 : Int32).toInt ≤ ((0 : Nat) : Int) * 15840; decide, ⟨fun _ j h => absurd h (Nat.not_lt_zero _), fun _ => by show (0 : Int32).toInt = 0; decide⟩⟩
  | u + 1, hu => by
    obtain ⟨i1, i2, i3⟩ := szd_le hq hM hf u (by omega)
    have hs := sdp_le (show u < 5 by omega) hM hf q (Nat.le_refl _) hq
    have ha := iabs_int (x := sdp f σ u q) (by omega)
    have he : (szd f σ q (u + 1)).toInt = (szd f σ q u).toInt + ((sdp f σ u q).toInt.natAbs : Int) := by
      show (szd f σ q u + iabs (sdp f σ u q)).toInt = _
      rw [Int32.toInt_add, ha]
      exact bm32 (by omega) (by omega)
    rw [he]
    refine ⟨by omega, by omega, ?_⟩
    constructor
    · intro h j hj
      rcases Nat.lt_or_eq_of_le (Nat.le_of_lt_succ hj) with w | w
      · exact i3.mp (by omega) j w
      · subst w
        apply Int32.toInt_inj.mp
        have z : (0 : Int32).toInt = 0 := by decide
        omega
    · intro h
      have h1 := i3.mpr (fun j hj => h j (by omega))
      have h2 := h u (by omega)
      rw [h1, h2]; decide
theorem szd_0 {f : Nat → Int32} {σ : Sg} {q : Nat} (hq : q ≤ 8) (hM : MR 1 118 q σ) (hf : ∀ k, k < q → nok (f k)) : szd f σ q 5 = 0 ↔ ∀ j, j < 5 → sdp f σ j q = 0 := by
  have := (szd_le hq hM hf 5 (Nat.le_refl _)).2.2
  rw [← this]
  constructor
  · intro h; rw [h]; decide
  · intro h; exact Int32.toInt_inj.mp h
theorem jsum_in {k4 : Int32 → Int32 → Sg → Option (Int32 × Sg)} {q u : Nat} {v : Int32} {σ : Sg} (hq : q ≤ 8) (h : SP q σ) (hu : u < 5) : j_sizeOfDimension_51_114_L15 k4 fu v (nI u) 0 0 σ = k4 (v + iabs (sdp (σ.1 114) σ u q)) (nI (u + 1)) σ := by
  refine loopE (L := fun k p s => j_sizeOfDimension_51_114_L15 k4 k v (nI u) s (nI p) σ) (N := q) (P := fun p s => s = sdp (σ.1 114) σ u p) (Q := fun r => r = k4 (v + iabs (sdp (σ.1 114) σ u q)) (nI (u + 1)) σ) ?_ ?_ (fu_lt (by omega)) rfl
  · rintro k p s hp rfl
    refine ⟨_, ?_, rfl⟩
    show j_sizeOfDimension_51_114_H15 k4 (j_sizeOfDimension_51_114_L15 k4 k) v (nI u) _ (nI p) σ = _
    unfold j_sizeOfDimension_51_114_H15
    rw [h.1, if_neg (nI_ge hp (by omega)), inB_t (by omega) (by omega), gd_t, gd_t, cl_n (by omega), ar_pow (by omega) hu, gd_t, cl_n (by omega), h.2.1 p u hp hu, nI_1]
    rfl
  · rintro k s rfl
    show j_sizeOfDimension_51_114_H15 k4 (j_sizeOfDimension_51_114_L15 k4 k) v (nI u) _ (nI q) σ = _
    unfold j_sizeOfDimension_51_114_H15
    rw [h.1, if_pos (nI_le (by omega) (by omega)), nI_1]
theorem jsum {q : Nat} {σ : Sg} (hq : q ≤ 8) (h : SP q σ) : j_sizeOfDimension_51_114 σ = some (szd (σ.1 114) σ q 5, σ) := by
  unfold j_sizeOfDimension_51_114
  refine loopE (L := fun k u s => j_sizeOfDimension_51_114_L4 k s (nI u) σ) (N := 5) (P := fun u s => s = szd (σ.1 114) σ q u) (Q := fun r => r = some (szd (σ.1 114) σ q 5, σ)) ?_ ?_ (by decide) rfl
  · rintro k u s hu rfl
    refine ⟨_, ?_, rfl⟩
    show j_sizeOfDimension_51_114_H4 (j_sizeOfDimension_51_114_L4 k) _ (nI u) σ = _
    unfold j_sizeOfDimension_51_114_H4
    rw [if_neg (show ¬ (5 : Int32) ≤ nI u from nI_ge (b := 5) hu (by decide)), jsum_in hq h hu]
    rfl
  · rintro k s rfl
    show j_sizeOfDimension_51_114_H4 (j_sizeOfDimension_51_114_L4 k) _ (nI 5) σ = _
    unfold j_sizeOfDimension_51_114_H4
    rw [if_pos (show (5 : Int32) ≤ nI 5 by decide)]
def pu (f : Nat → Int32) (σ : Sg) (q : Nat) : Nat → Int32
  | 0 => 1
  | u + 1 => pu f σ q u &&& (if sdp f σ u q = 0 then (1 : Int32) else 0)
theorem pu_01 (f : Nat → Int32) (σ : Sg) (q : Nat) : ∀ u, (pu f σ q u = 1 ∧ ∀ j, j < u → sdp f σ j q = 0) ∨ (pu f σ q u = 0 ∧ ¬ ∀ j, j < u → sdp f σ j q = 0)
  | 0 => Or.inl ⟨rfl, fun j h => absurd h (Nat.not_lt_zero _)⟩
  | u + 1 => by
    show ((pu f σ q u &&& (if sdp f σ u q = 0 then (1 : Int32) else 0)) = 1 ∧ _) ∨ ((pu f σ q u &&& (if sdp f σ u q = 0 then (1 : Int32) else 0)) = 0 ∧ _)
    rcases pu_01 f σ q u with ⟨e, h⟩ | ⟨e, h⟩
    · rw [e]
      by_cases g : sdp f σ u q = 0
      · rw [if_pos g]
        refine Or.inl ⟨rfl, ?_⟩
        intro j hj
        rcases Nat.lt_or_eq_of_le (Nat.le_of_lt_succ hj) with w | w
        · exact h j w
        · rw [w]; exact g
      · rw [if_neg g]
        exact Or.inr ⟨rfl, fun w => g (w u (by omega))⟩
    · rw [e]
      refine Or.inr ⟨?_, fun w => h (fun j hj => w j (by omega))⟩
      split <;> rfl
theorem pu_cg {f f' : Nat → Int32} {σ σ' : Sg} {q : Nat} (hd : dm σ' = dm σ) (h : ∀ j, j < q → f' j = f j) : ∀ u, pu f' σ' q u = pu f σ q u
  | 0 => rfl
  | u + 1 => by
    show (pu f' σ' q u &&& (if sdp f' σ' u q = 0 then (1 : Int32) else 0)) = (pu f σ q u &&& (if sdp f σ u q = 0 then (1 : Int32) else 0))
    rw [pu_cg hd h u, sdp_cg hd u q h]
theorem pu_nb (f : Nat → Int32) (σ : Sg) (q u : Nat) : nbB (pu f σ q u) = true := by
  rcases pu_01 f σ q u with ⟨e, _⟩ | ⟨e, _⟩ <;> rw [e] <;> decide
theorem jpp {n q ver : Nat} {σ : Sg} (h : VV n q ver σ) (hf : ∀ k, k < q → nok (σ.1 114 k)) : j_isPureProduct_51_114 σ = some (pu (σ.1 114) σ q 5, σ) := by
  unfold j_isPureProduct_51_114 j_isPureProduct_51_114_b13
  rw [jsum (vq h) (vSP h), bd_s]
  have hz := szd_0 (vq h) (vMR h) hf
  rcases pu_01 (σ.1 114) σ q 5 with ⟨e, g⟩ | ⟨e, g⟩
  · rw [if_pos (hz.mpr g), e]; rfl
  · rw [if_neg (fun w => g (hz.mp w)), e]; rfl
theorem mtp_in {k4 : Int32 → Int32 → Sg → Option (Int32 × Sg)} {q u : Nat} {v : Int32} {σ : Sg} (hq : q ≤ 8) (h0 : σ.1 118 0 = nI q) (hu : u < 5) : m_isToldPure_117_L14 k4 fu v (nI u) 0 0 σ = k4 (v &&& (if sdp (σ.1 128) σ u q = 0 then (1 : Int32) else 0)) (nI (u + 1)) σ := by
  refine loopE (L := fun k p s => m_isToldPure_117_L14 k4 k v (nI u) s (nI p) σ) (N := q) (P := fun p s => s = sdp (σ.1 128) σ u p) (Q := fun r => r = k4 (v &&& (if sdp (σ.1 128) σ u q = 0 then (1 : Int32) else 0)) (nI (u + 1)) σ) ?_ ?_ (fu_lt (by omega)) rfl
  · rintro k p s hp rfl
    refine ⟨_, ?_, rfl⟩
    show m_isToldPure_117_H14 k4 (m_isToldPure_117_L14 k4 k) v (nI u) _ (nI p) σ = _
    unfold m_isToldPure_117_H14
    rw [h0, if_neg (nI_ge hp (by omega)), inB_t (by omega) (by omega), gd_t, mpw (by omega) hu, bd_s, cl_n (by omega), nI_1]
    rfl
  · rintro k s rfl
    show m_isToldPure_117_H14 k4 (m_isToldPure_117_L14 k4 k) v (nI u) _ (nI q) σ = _
    unfold m_isToldPure_117_H14 m_isToldPure_117_b59
    rw [h0, if_pos (nI_le (by omega) (by omega)), nI_1]
    split <;> rfl
theorem mtp {q : Nat} {σ : Sg} (hq : q ≤ 8) (h0 : σ.1 118 0 = nI q) : m_isToldPure_117 σ = some (pu (σ.1 128) σ q 5, σ) := by
  unfold m_isToldPure_117
  refine loopE (L := fun k u s => m_isToldPure_117_L4 k s (nI u) σ) (N := 5) (P := fun u s => s = pu (σ.1 128) σ q u) (Q := fun r => r = some (pu (σ.1 128) σ q 5, σ)) ?_ ?_ (by decide) rfl
  · rintro k u s hu rfl
    refine ⟨_, ?_, rfl⟩
    show m_isToldPure_117_H4 (m_isToldPure_117_L4 k) _ (nI u) σ = _
    unfold m_isToldPure_117_H4
    rw [if_neg (show ¬ (5 : Int32) ≤ nI u from nI_ge (b := 5) hu (by decide)), mtp_in hq h0 hu]
    rfl
  · rintro k s rfl
    show m_isToldPure_117_H4 (m_isToldPure_117_L4 k) _ (nI 5) σ = _
    unfold m_isToldPure_117_H4
    rw [if_pos (show (5 : Int32) ≤ nI 5 by decide), pu_nb, gd_t]
theorem part_eq {x y : Int64} {a b : Int} (ha : x.toInt = a) (hb : y.toInt = b) (h1 : -9223372036854775808 < a) (hb0 : 0 < b) {p : Nat} (hp : p < 2) (σ τ : Sg) : ∃ r, j_partOf_s x y (nI p) σ = some (r, σ) ∧ m_partOf_s x y (nI p) τ = some (r, τ) := by
  have hg := gcL_toInt ha hb h1 (by omega)
  have hpos : 0 < Int.gcd a b := Int.gcd_pos_of_ne_zero_right _ (by omega)
  have hg0 : ¬ gcL x y = 0 := by intro e; rw [e, L_0] at hg; omega
  have hgB : neBL (gcL x y) = true := by simp [neBL, hg0]
  have hy : 0 ≤ lg_cmp y 0 := by
    apply Int32.not_lt.mp
    intro e
    have := cmp_lt.mp e
    rw [Int64.lt_iff_toInt_lt, hb, L_0] at this; omega
  have ej : j_partOf_s x y (nI p) σ = some ((if p = 0 then x else y) / gcL x y, σ) := by
    unfold j_partOf_s j_partOf_s_b28
    rw [jgd_eq, bd_s, if_neg (fun e => hg0 (cmp_eq.mp e)), hgB, gd_t, gd_t]
    have : p = 0 ∨ p = 1 := by omega
    rcases this with rfl | rfl <;> rfl
  refine ⟨_, ej, ?_⟩
  unfold m_partOf_s m_partOf_s_b30 m_partOf_s_b48
  by_cases hx : x = 0
  · rw [if_pos (cmp_eq.mpr hx)]
    have : p = 0 ∨ p = 1 := by omega
    have hr : (if p = 0 then x else y) / gcL x y = (nI p).toInt64 := by
      apply L_eq
      have h0 : a = 0 := by rw [← ha, hx]; rfl
      rcases this with rfl | rfl
      · rw [if_pos rfl, L_div ha hg h1, h0, Int.zero_tdiv]; rfl
      · rw [if_neg (by decide), L_div hb hg (by omega), h0]
        have e : ((Int.gcd 0 b : Nat) : Int) = b := by rw [Int.gcd_zero_left]; omega
        rw [e, Int.tdiv_self (by omega)]; rfl
    rw [hr]
  · rw [if_neg (fun e => hx (cmp_eq.mp e)), if_pos hy, mco_eq ha hb h1 (by omega), bd_s, hgB, gd_t, gd_t]
    have : p = 0 ∨ p = 1 := by omega
    rcases this with rfl | rfl <;> rfl
theorem rl_pos {q : Nat} {s : ET} (h : EQ q s) (x : Nat) : 0 < rl (tz s) x x := by
  have h1 := h.1
  rw [rl_x]
  unfold rd sgd
  show 0 < (s.2.2.2.2.toInt).tdiv (if 0 ≤ s.2.2.2.2.toInt then _ else _)
  have hd := gch_s s.2.2.2.2.toInt (fun r => (tz s).1 r x) s.2.1
  have hp := gch_pos h1 (fun r => (tz s).1 r x) s.2.1
  show 0 < (s.2.2.2.2.toInt).tdiv (if 0 ≤ s.2.2.2.2.toInt then ((gch s.2.2.2.2.toInt (fun r => (tz s).1 r x) s.2.1 : Nat) : Int) else -((gch s.2.2.2.2.toInt (fun r => (tz s).1 r x) s.2.1 : Nat) : Int))
  generalize gch s.2.2.2.2.toInt (fun r => (tz s).1 r x) s.2.1 = g at hd hp
  generalize s.2.2.2.2.toInt = z at *
  obtain ⟨m, hm⟩ := hd
  have hm0 : 0 < m := by
    rcases Nat.eq_zero_or_pos m with w | w
    · subst w; omega
    · exact w
  by_cases hz : 0 ≤ z
  · rw [if_pos hz]
    have e : z = (g : Int) * (m : Int) := by rw [← Int.natCast_mul, ← hm]; omega
    rw [e, Int.mul_tdiv_cancel_left _ (by omega)]; omega
  · rw [if_neg hz]
    have e : z = (-(g : Int)) * (m : Int) := by rw [Int.neg_mul, ← Int.natCast_mul, ← hm]; omega
    rw [e, Int.mul_tdiv_cancel_left _ (by omega)]; omega
