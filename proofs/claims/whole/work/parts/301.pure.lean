/-! ===== PURE: numbers of a list taken; PURE PRODUCTS ===== -/
def nbr (σ : Sg) (l s i : Nat) : Int32 := if i < s then σ.1 127 (40 * l + i) else 0
abbrev nok (x : Int32) : Prop := -99 ≤ x ∧ x ≤ 99
theorem nok_int {x : Int32} (h : nok x) : -99 ≤ x.toInt ∧ x.toInt ≤ 99 := by
  obtain ⟨h1, h2⟩ := h
  have a := Int32.le_iff_toInt_le.mp h1
  have b := Int32.le_iff_toInt_le.mp h2
  have c : (-99 : Int32).toInt = -99 := by decide
  have d : (99 : Int32).toInt = 99 := by decide
  omega
theorem nok_lt {x : Int32} : (¬ x < -99 ∧ x ≤ 99) ↔ nok x := by
  unfold nok; rw [Int32.not_lt]
theorem jtake {l s w : Nat} {σ : Sg} (hl : l < 3) (hs : s ≤ 40) (hw : w ≤ 8) (h1 : σ.1 112 l = nI s) (hL : ∀ i, i < 40 → σ.1 (108 + 1 + l) i = σ.1 127 (40 * l + i)) : ((∀ i, i < w → nok (nbr σ l s i)) → ∃ σ', j_takeNumbers_0_114 (nI l) (nI w) σ = some (1, σ') ∧ FR [114] σ σ' ∧ ∀ i, i < w → σ'.1 114 i = nbr σ l s i) ∧ ((¬ ∀ i, i < w → nok (nbr σ l s i)) → ∃ σ', j_takeNumbers_0_114 (nI l) (nI w) σ = some (0, σ') ∧ FR [114] σ σ') := by
  have fl : ∀ l, l < 3 → ([114] : List Nat).contains (108 + 1 + l) = false := by decide
  have step : ∀ k i τ, i < w → FR [114] σ τ → j_takeNumbers_0_114_L3 (k + 1) (nI l) (nI w) (nI i) τ = if nok (nbr σ l s i) then j_takeNumbers_0_114_L3 k (nI l) (nI w) (nI (i + 1)) (si τ 114 i (nbr σ l s i)) else some (0, si τ 114 i (nbr σ l s i)) := by
    intro k i τ hi f
    have e1 : τ.1 112 l = nI s := by rw [FR_i f (by decide)]; exact h1
    have b35 : ∀ v, j_takeNumbers_0_114_b35 (j_takeNumbers_0_114_L3 k) (nI l) (nI w) (nI i) (nI i) v τ = if nok v then j_takeNumbers_0_114_L3 k (nI l) (nI w) (nI (i + 1)) (si τ 114 i v) else some (0, si τ 114 i v) := by
      intro v
      unfold j_takeNumbers_0_114_b35 j_takeNumbers_0_114_b54
      rw [inB_t (by omega) (by omega), gd_t, gd_t, gd_t, cl_n (by omega), si_e, nI_1]
      by_cases g1 : v < -99
      · rw [if_pos g1, if_neg (fun h => (nok_lt.mpr h).1 g1)]
      · rw [if_neg g1]
        by_cases g2 : v ≤ 99
        · rw [if_pos g2, if_pos (nok_lt.mp ⟨g1, g2⟩)]
        · rw [if_neg g2, if_neg (fun h => g2 (nok_lt.mpr h).2)]
    show j_takeNumbers_0_114_H3 (j_takeNumbers_0_114_L3 k) (nI l) (nI w) (nI i) τ = _
    unfold j_takeNumbers_0_114_H3
    rw [if_neg (nI_ge hi (by omega))]
    by_cases g : i < s
    · rw [jpl_in hl hs e1 g, bd_s, if_neg (by decide), inB_t hl (by omega), gd_t, cl_n (by omega), ar_lis hl (by omega), gd_t, cl_n (by omega), b35]
      have : τ.1 (108 + 1 + l) i = nbr σ l s i := by
        rw [FR_i f (fl l hl), hL i (by omega)]; unfold nbr; rw [if_pos g]
      rw [this]
    · rw [jpl_out hl e1 (Or.inr (nI_le (by omega) (by omega))), bd_s, if_pos rfl, b35]
      have : nbr σ l s i = 0 := by unfold nbr; rw [if_neg g]
      rw [this]
  unfold j_takeNumbers_0_114
  constructor
  · intro hok
    refine loopE (L := fun k i τ => j_takeNumbers_0_114_L3 k (nI l) (nI w) (nI i) τ) (N := w) (P := fun i τ => FR [114] σ τ ∧ ∀ j, j < i → τ.1 114 j = nbr σ l s j) (Q := fun r => ∃ σ', r = some (1, σ') ∧ FR [114] σ σ' ∧ ∀ i, i < w → σ'.1 114 i = nbr σ l s i) ?_ ?_ (fu_lt (by omega)) ⟨FR_refl _ _, fun j h => absurd h (Nat.not_lt_zero _)⟩
    · rintro k i τ hi ⟨f, g⟩
      refine ⟨si τ 114 i (nbr σ l s i), ?_, FR_si f (by decide), ?_⟩
      · try dsimp only
        rw [step k i τ hi f, if_pos (hok i hi)]
      · intro j hj
        by_cases e : j = i
        · subst e; rw [si_e]
        · rw [si_j e]; exact g j (by omega)
    · rintro k τ ⟨f, g⟩
      refine ⟨τ, ?_, f, g⟩
      show j_takeNumbers_0_114_H3 (j_takeNumbers_0_114_L3 k) (nI l) (nI w) (nI w) τ = _
      unfold j_takeNumbers_0_114_H3
      rw [if_pos (nI_le (by omega) (by omega))]
  · intro hno
    simp only [Classical.not_forall] at hno
    obtain ⟨x, hx, hxn⟩ := hno
    refine loopQ (fun k i τ => j_takeNumbers_0_114_L3 k (nI l) (nI w) (nI i) τ) w (fun i τ => FR [114] σ τ ∧ i ≤ x) (fun r => ∃ σ', r = some (0, σ') ∧ FR [114] σ σ') ?_ ?_ w fu 0 σ (by omega) (fu_lt (by omega)) ⟨FR_refl _ _, by omega⟩
    · rintro k i τ hi ⟨f, g⟩
      try dsimp only
      rw [step k i τ hi f]
      by_cases hk : nok (nbr σ l s i)
      · rw [if_pos hk]
        refine Or.inl ⟨_, rfl, FR_si f (by decide), ?_⟩
        have : i ≠ x := fun e => hxn (e ▸ hk)
        omega
      · rw [if_neg hk]
        exact Or.inr ⟨_, rfl, FR_si f (by decide)⟩
    · rintro k τ ⟨f, g⟩; omega
theorem isIn99 {x : Int32} {σ : Sg} : m_isIn_s x.toInt64 (-99) 99 σ = some (if nok x then 1 else 0, σ) := by
  rw [show (-99 : Int64) = (-99 : Int32).toInt64 by decide, show (99 : Int64) = (99 : Int32).toInt64 by decide, isInI]
theorem and01 (p : Prop) [Decidable p] (a : Int32) (h : a = 0 ∨ a = 1) : a &&& (if p then (1 : Int32) else 0) = if a = 1 ∧ p then 1 else 0 := by
  rcases h with rfl | rfl <;> by_cases hp : p <;> simp [hp]
theorem mtell {l s w : Nat} {σ : Sg} (hl : l < 3) (hs : s ≤ 40) (hw : w ≤ 8) (h1 : σ.1 126 l = nI s) : ∃ σ', m_tells_117 (nI l) (nI w) σ = some (if ∀ i, i < w → nok (nbr σ l s i) then 1 else 0, σ') ∧ FR [128] σ σ' ∧ ∀ i, i < w → σ'.1 128 i = nbr σ l s i := by
  unfold m_tells_117
  refine loopE (L := fun k i (v : Sg × Int32) => m_tells_117_L5 k (nI l) (nI w) v.2 (nI i) v.1) (N := w) (s := (σ, (1 : Int32))) (P := fun i v => FR [128] σ v.1 ∧ (∀ j, j < i → v.1.1 128 j = nbr σ l s j) ∧ v.2 = if ∀ j, j < i → nok (nbr σ l s j) then 1 else 0) (Q := fun r => ∃ σ', r = some (if ∀ i, i < w → nok (nbr σ l s i) then 1 else 0, σ') ∧ FR [128] σ σ' ∧ ∀ i, i < w → σ'.1 128 i = nbr σ l s i) ?_ ?_ (fu_lt (by omega)) ⟨FR_refl _ _, fun j h => absurd h (Nat.not_lt_zero _), (if_pos (fun j h => absurd h (Nat.not_lt_zero _))).symm⟩
  · rintro k i ⟨τ, v⟩ hi ⟨f, g, gv⟩
    dsimp only at f g gv ⊢
    refine ⟨(si τ 128 i (nbr σ l s i), if ∀ j, j < i + 1 → nok (nbr σ l s j) then 1 else 0), ?_, FR_si f (by decide), ?_, rfl⟩
    · have e1 : τ.1 126 l = nI s := by rw [FR_i f (by decide)]; exact h1
      have hv : v &&& (if nok (nbr σ l s i) then (1 : Int32) else 0) = if ∀ j, j < i + 1 → nok (nbr σ l s j) then 1 else 0 := by
        rw [and01 _ _ (by rw [gv]; split <;> simp)]
        by_cases q1 : ∀ j, j < i → nok (nbr σ l s j)
        · rw [gv, if_pos q1]
          by_cases q2 : nok (nbr σ l s i)
          · rw [if_pos ⟨rfl, q2⟩, if_pos]
            intro j hj
            rcases Nat.lt_or_eq_of_le (Nat.le_of_lt_succ hj) with w1 | w1
            · exact q1 j w1
            · rw [w1]; exact q2
          · rw [if_neg (fun h => q2 h.2), if_neg (fun h => q2 (h i (by omega)))]
        · rw [gv, if_neg q1, if_neg (fun h => absurd h.1 (by decide)), if_neg (fun h => q1 (fun j hj => h j (by omega)))]
      have b44 : ∀ x, m_tells_117_b44 (m_tells_117_L5 k) (nI l) (nI w) v (nI i) (nI i) x τ = m_tells_117_L5 k (nI l) (nI w) (v &&& (if nok x then (1 : Int32) else 0)) (nI (i + 1)) (si τ 128 i x) := by
        intro x
        unfold m_tells_117_b44
        rw [inB_t (by omega) (by omega), gd_t, gd_t, cl_n (by omega), si_e, isIn99, bd_s, nI_1]
      show m_tells_117_H5 (m_tells_117_L5 k) (nI l) (nI w) v (nI i) τ = _
      unfold m_tells_117_H5
      rw [if_neg (nI_ge hi (by omega)), inB_t hl (by omega), gd_t, cl_n (by omega), e1]
      by_cases g1 : i < s
      · have e2 : nbr σ l s i = τ.1 127 (40 * l + i) := by
          unfold nbr; rw [if_pos g1, FR_i f (by decide)]
        rw [if_neg (nI_ge g1 (by omega)), show (40 : Int32) * nI l + nI i = nI (40 * l + i) by rw [show (40 : Int32) = nI 40 from rfl, nI_mul, nI_add], inB_t (by omega) (by omega), gd_t, cl_n (by omega), b44, ← e2, hv]
      · have e2 : nbr σ l s i = 0 := by unfold nbr; rw [if_neg g1]
        rw [e2] at hv ⊢
        rw [if_pos (nI_le (by omega) (by omega)), b44, hv]
    · intro j hj
      by_cases e : j = i
      · subst e; rw [si_e]
      · rw [si_j e]; exact g j (by omega)
  · rintro k ⟨τ, v⟩ ⟨f, g, gv⟩
    dsimp only at f g gv ⊢
    refine ⟨τ, ?_, f, g⟩
    show m_tells_117_H5 (m_tells_117_L5 k) (nI l) (nI w) v (nI w) τ = _
    unfold m_tells_117_H5
    rw [if_pos (nI_le (by omega) (by omega))]
    have : nbB v = true := by rw [gv]; split <;> decide
    rw [this, gd_t, gv]
