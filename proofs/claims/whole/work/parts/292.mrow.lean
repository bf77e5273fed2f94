/-! ===== PURE: the reference's table: a set's columns side by side ===== -/
def clf (S q0 : Nat) : Nat → Nat → Nat
  | 0 => fun _ => q0
  | p + 1 => if S.testBit p = true then (fun i => if i = cntS S p then p else clf S q0 p i) else clf S q0 p
theorem cnt_le (S : Nat) : ∀ p, cntS S p ≤ p
  | 0 => Nat.le_refl _
  | p + 1 => by
    have := cnt_le S p
    unfold cntS
    split <;> omega
theorem cnt_up (S p : Nat) : ∀ d, cntS S p ≤ cntS S (p + d)
  | 0 => Nat.le_refl _
  | d + 1 => Nat.le_trans (cnt_up S p d) (Nat.le_add_right _ _)
theorem cnt_t {S p : Nat} (h : S.testBit p = true) : cntS S (p + 1) = cntS S p + 1 := by
  show cntS S p + _ = _; rw [if_pos h]
theorem cnt_f {S p : Nat} (h : ¬ S.testBit p = true) : cntS S (p + 1) = cntS S p := by
  show cntS S p + _ = _; rw [if_neg h]; rfl
theorem cnt_lt {S p q : Nat} (h : S.testBit p = true) (hp : p < q) : cntS S p < cntS S q := by
  obtain ⟨d, rfl⟩ : ∃ d, q = p + 1 + d := ⟨q - p - 1, by omega⟩
  have := cnt_up S (p + 1) d
  rw [cnt_t h] at this; omega
theorem clf_hi (S q0 : Nat) : ∀ p i, cntS S p ≤ i → clf S q0 p i = q0
  | 0, i, _ => rfl
  | p + 1, i, h => by
    by_cases hb : S.testBit p = true
    · rw [cnt_t hb] at h
      unfold clf
      rw [if_pos hb]
      show (if i = cntS S p then p else clf S q0 p i) = q0
      rw [if_neg (by omega)]; exact clf_hi S q0 p i (by omega)
    · rw [cnt_f hb] at h
      unfold clf
      rw [if_neg hb]; exact clf_hi S q0 p i h
theorem clf_mem (S q0 : Nat) : ∀ p p', p' < p → S.testBit p' = true → clf S q0 p (cntS S p') = p'
  | 0, p', h, _ => by omega
  | p + 1, p', h, hb' => by
    by_cases hb : S.testBit p = true
    · unfold clf
      rw [if_pos hb]
      show (if cntS S p' = cntS S p then p else clf S q0 p (cntS S p')) = p'
      by_cases e : p' = p
      · subst e; rw [if_pos rfl]
      · have := cnt_lt hb' (show p' < p by omega)
        rw [if_neg (by omega)]; exact clf_mem S q0 p p' (by omega) hb'
    · unfold clf
      rw [if_neg hb]
      have : p' ≠ p := fun e => hb (e ▸ hb')
      exact clf_mem S q0 p p' (by omega) hb'
theorem ix9 (u n : Nat) : ((9 : Int32) * nI u) + nI n = nI (9 * u + n) := by
  rw [show (9 : Int32) = nI 9 from rfl, nI_mul, nI_add]
theorem in9 {u i : Nat} (hu : u < 5) (hi : i < 9) : inB (nI (9 * u + i)) 45 = true := inB_t (by omega) (by omega)
/-- the table's first w columns -/
def TW (w : Nat) (T : Nat → Nat → Int64) (σ : Sg) : Prop := ∀ u i, u < 5 → i < w → σ.2 123 (9 * u + i) = T u i
theorem TW_set {w r j : Nat} {T T' : Nat → Nat → Int64} {x : Int64} {σ : Sg} (hw : w ≤ 9) (hj : j < 9) (h : TW w T σ) (hT : ∀ u i, u < 5 → i < w → T' u i = if u = r ∧ i = j then x else T u i) : TW w T' (sl σ 123 (9 * r + j) x) := by
  intro u i hu hi
  rw [hT u i hu hi]
  by_cases e : u = r ∧ i = j
  · obtain ⟨rfl, rfl⟩ := e; rw [sl_e, if_pos ⟨rfl, rfl⟩]
  · rw [sl_j (by omega), if_neg e]; exact h u i hu hi
theorem TW_le {w w' : Nat} {T : Nat → Nat → Int64} {σ : Sg} (h : TW w T σ) (hw : w' ≤ w) : TW w' T σ := fun u i hu hi => h u i hu (by omega)
theorem lays_col {k5 : Int32 → Int32 → Int32 → Int32 → Sg → Option (Int32 × Sg)} {v1 v2 : Int32} {n p : Nat} {T : Nat → Nat → Int64} (hn : n < 9) (hp : p < 8) (σ : Sg) (hT : TW 9 T σ) : ∃ σ', m_lays2_117_L31 k5 fu v1 v2 (nI n) (nI p) 0 σ = k5 v1 v2 (nI (n + 1)) (nI (p + 1)) σ' ∧ FR [123] σ σ' ∧ TW 9 (fun u i => if i = n then mA σ u p else T u i) σ' := by
  refine loopE (L := fun k i s => m_lays2_117_L31 k5 k v1 v2 (nI n) (nI p) (nI i) s) (N := 5) (P := fun j τ => FR [123] σ τ ∧ TW 9 (fun u i => if i = n ∧ u < j then mA σ u p else T u i) τ) (Q := fun r => ∃ σ', r = k5 v1 v2 (nI (n + 1)) (nI (p + 1)) σ' ∧ FR [123] σ σ' ∧ TW 9 (fun u i => if i = n then mA σ u p else T u i) σ') ?_ ?_ (by decide) ⟨FR_refl _ _, fun u i hu hi => (hT u i hu hi).trans (if_neg (by omega)).symm⟩
  · rintro k j τ hj ⟨f, g⟩
    refine ⟨sl τ 123 (9 * j + n) (mA σ j p), ?_, FR_sl f (by decide), TW_set (by omega) hn g (fun u i hu hi => ?_)⟩
    · show m_lays2_117_H31 k5 (m_lays2_117_L31 k5 k) v1 v2 (nI n) (nI p) (nI j) τ = _
      unfold m_lays2_117_H31
      rw [if_neg (show ¬ (5 : Int32) ≤ nI j from nI_ge (b := 5) hj (by decide)), mpw hp hj, bd_s, ix9, in9 hj hn, gd_t, cl_n (by omega), nI_1, dm_fr (FR_i f (by decide))]; rfl
    · by_cases e : u = j ∧ i = n
      · rw [if_pos e, if_pos ⟨e.2, by omega⟩, e.1]
      · rw [if_neg e]
        by_cases e2 : i = n ∧ u < j
        · rw [if_pos e2, if_pos ⟨e2.1, by omega⟩]
        · rw [if_neg e2, if_neg (by omega)]
  · rintro k τ ⟨f, g⟩
    refine ⟨τ, ?_, f, ?_⟩
    · show m_lays2_117_H31 k5 (m_lays2_117_L31 k5 k) v1 v2 (nI n) (nI p) (nI 5) τ = _
      unfold m_lays2_117_H31 m_lays2_117_b67
      rw [if_pos (show (5 : Int32) ≤ nI 5 by decide), nI_1, nI_1]
    · intro u i hu hi
      rw [g u i hu hi]
      dsimp only
      by_cases e : i = n
      · rw [if_pos ⟨e, hu⟩, if_pos e]
      · rw [if_neg (by omega), if_neg e]
theorem lays_end {n q0 : Nat} {T : Nat → Nat → Int64} (hn : n < 9) (hp : q0 < 8) (σ : Sg) (hT : TW 9 T σ) : ∃ σ', m_lays2_117_L76 fu (nI q0) (nI n) 0 σ = some (nI n, σ') ∧ FR [123] σ σ' ∧ TW 9 (fun u i => if i = n then mA σ u q0 else T u i) σ' := by
  refine loopE (L := fun k i s => m_lays2_117_L76 k (nI q0) (nI n) (nI i) s) (N := 5) (P := fun j τ => FR [123] σ τ ∧ TW 9 (fun u i => if i = n ∧ u < j then mA σ u q0 else T u i) τ) (Q := fun r => ∃ σ', r = some (nI n, σ') ∧ FR [123] σ σ' ∧ TW 9 (fun u i => if i = n then mA σ u q0 else T u i) σ') ?_ ?_ (by decide) ⟨FR_refl _ _, fun u i hu hi => (hT u i hu hi).trans (if_neg (by omega)).symm⟩
  · rintro k j τ hj ⟨f, g⟩
    refine ⟨sl τ 123 (9 * j + n) (mA σ j q0), ?_, FR_sl f (by decide), TW_set (by omega) hn g (fun u i hu hi => ?_)⟩
    · show m_lays2_117_H76 (m_lays2_117_L76 k) (nI q0) (nI n) (nI j) τ = _
      unfold m_lays2_117_H76
      rw [if_neg (show ¬ (5 : Int32) ≤ nI j from nI_ge (b := 5) hj (by decide)), if_neg (nI_pos (by omega)), mpw hp hj, bd_s, ix9, in9 hj hn, gd_t, cl_n (by omega), nI_1, dm_fr (FR_i f (by decide))]; rfl
    · by_cases e : u = j ∧ i = n
      · rw [if_pos e, if_pos ⟨e.2, by omega⟩, e.1]
      · rw [if_neg e]
        by_cases e2 : i = n ∧ u < j
        · rw [if_pos e2, if_pos ⟨e2.1, by omega⟩]
        · rw [if_neg e2, if_neg (by omega)]
  · rintro k τ ⟨f, g⟩
    refine ⟨τ, ?_, f, ?_⟩
    · show m_lays2_117_H76 (m_lays2_117_L76 k) (nI q0) (nI n) (nI 5) τ = _
      unfold m_lays2_117_H76 m_lays2_117_b112
      rw [if_pos (show (5 : Int32) ≤ nI 5 by decide)]
    · intro u i hu hi
      rw [g u i hu hi]
      dsimp only
      by_cases e : i = n
      · rw [if_pos ⟨e, hu⟩, if_pos e]
      · rw [if_neg (by omega), if_neg e]
theorem lays_loop {S q q0 : Nat} {v2 : Int32} (hS : S < 256) (hq : q ≤ 8) (σ : Sg) (h0 : σ.1 118 0 = nI q) : ∃ σ', m_lays2_117_L5 fu (nI S) v2 0 0 σ = m_lays2_117_L76 fu v2 (nI (cntS S q)) 0 σ' ∧ FR [123] σ σ' ∧ TW (cntS S q) (fun u i => mA σ u (clf S q0 q i)) σ' := by
  refine loopE (L := fun k p s => m_lays2_117_L5 k (nI S) v2 (nI (cntS S p)) (nI p) s) (N := q) (P := fun p τ => FR [123] σ τ ∧ TW (cntS S p) (fun u i => mA σ u (clf S q0 p i)) τ) (Q := fun r => ∃ σ', r = m_lays2_117_L76 fu v2 (nI (cntS S q)) 0 σ' ∧ FR [123] σ σ' ∧ TW (cntS S q) (fun u i => mA σ u (clf S q0 q i)) σ') ?_ ?_ (fu_lt (by omega)) ⟨FR_refl _ _, fun u i _ hi => absurd hi (Nat.not_lt_zero _)⟩
  · rintro k p τ hp ⟨f, g⟩
    have e0 : τ.1 118 0 = nI q := by rw [FR_i f (by decide)]; exact h0
    have st : m_lays2_117_L5 (k + 1) (nI S) v2 (nI (cntS S p)) (nI p) τ = if S.testBit p = true then m_lays2_117_L31 (m_lays2_117_L5 k) fu (nI S) v2 (nI (cntS S p)) (nI p) 0 τ else m_lays2_117_L5 k (nI S) v2 (nI (cntS S p)) (nI (p + 1)) τ := by
      show m_lays2_117_H5 (m_lays2_117_L5 k) (nI S) v2 (nI (cntS S p)) (nI p) τ = _
      unfold m_lays2_117_H5 m_lays2_117_b67
      rw [e0, if_neg (nI_ge hp (by omega)), m_has_eq hS (by omega), bd_s, nI_1]
      cases S.testBit p <;> rfl
    have hc := cnt_le S p
    rw [st]
    by_cases hb : S.testBit p = true
    · rw [if_pos hb]
      obtain ⟨τ', w1, w2, w3⟩ := lays_col (k5 := m_lays2_117_L5 k) (v1 := nI S) (v2 := v2) (n := cntS S p) (p := p) (T := fun u i => τ.2 123 (9 * u + i)) (by omega) (by omega) τ (fun u i _ _ => rfl)
      refine ⟨τ', ?_, FR_trans f w2, ?_⟩
      · rw [cnt_t hb]; exact w1
      · intro u i hu hi
        rw [cnt_t hb] at hi
        rw [w3 u i hu (by omega)]
        dsimp only
        have hcl : clf S q0 (p + 1) i = if i = cntS S p then p else clf S q0 p i := by
          show (if S.testBit p = true then (fun i => if i = cntS S p then p else clf S q0 p i) else clf S q0 p) i = _
          rw [if_pos hb]
        rw [hcl]
        by_cases e : i = cntS S p
        · rw [if_pos e, if_pos e, mA_fr (FR_i f (by decide))]
        · rw [if_neg e, if_neg e]; exact g u i hu (by omega)
    · rw [if_neg hb]
      refine ⟨τ, by rw [cnt_f hb], f, ?_⟩
      intro u i hu hi
      rw [cnt_f hb] at hi
      have hcl : clf S q0 (p + 1) = clf S q0 p := by
        show (if S.testBit p = true then (fun i => if i = cntS S p then p else clf S q0 p i) else clf S q0 p) = _
        rw [if_neg hb]
      rw [hcl]; exact g u i hu hi
  · rintro k τ ⟨f, g⟩
    have e0 : τ.1 118 0 = nI q := by rw [FR_i f (by decide)]; exact h0
    refine ⟨τ, ?_, f, g⟩
    show m_lays2_117_H5 (m_lays2_117_L5 k) (nI S) v2 (nI (cntS S q)) (nI q) τ = _
    unfold m_lays2_117_H5
    rw [e0, if_pos (nI_le (by omega) (by omega))]
theorem mlays {S q q0 : Nat} (hS : S < 256) (hq : q ≤ 8) (h0q : q0 < 8) (σ : Sg) (h0 : σ.1 118 0 = nI q) : ∃ σ', m_lays2_117 (nI S) (nI q0) σ = some (nI (cntS S q), σ') ∧ FR [123] σ σ' ∧ TW (cntS S q + 1) (fun u i => mA σ u (clf S q0 q i)) σ' := by
  obtain ⟨σ1, w1, w2, w3⟩ := lays_loop (q0 := q0) (v2 := nI q0) hS hq σ h0
  have hc := cnt_le S q
  obtain ⟨σ2, x1, x2, x3⟩ := lays_end (n := cntS S q) (T := fun u i => σ1.2 123 (9 * u + i)) (by omega) h0q σ1 (fun u i _ _ => rfl)
  refine ⟨σ2, by unfold m_lays2_117; rw [w1, x1], FR_trans w2 x2, ?_⟩
  intro u i hu hi
  rw [x3 u i hu (by omega)]
  dsimp only
  by_cases e : i = cntS S q
  · rw [if_pos e, clf_hi S q0 q i (by omega), mA_fr (FR_i w2 (by decide))]
  · rw [if_neg e]; exact w3 u i hu (by omega)
theorem mlays_no {S q : Nat} (hS : S < 256) (hq : q ≤ 8) (σ : Sg) (h0 : σ.1 118 0 = nI q) : ∃ σ', m_lays2_117 (nI S) (-1) σ = some (nI (cntS S q), σ') ∧ FR [123] σ σ' ∧ TW (cntS S q) (fun u i => mA σ u (clf S 0 q i)) σ' := by
  obtain ⟨σ1, w1, w2, w3⟩ := lays_loop (q0 := 0) (v2 := -1) hS hq σ h0
  refine ⟨σ1, ?_, w2, w3⟩
  unfold m_lays2_117
  rw [w1]
  show m_lays2_117_H76 (m_lays2_117_L76 19999) (-1) (nI (cntS S q)) 0 σ1 = _
  unfold m_lays2_117_H76 m_lays2_117_b112
  rw [if_neg (by decide), if_pos (by decide)]
