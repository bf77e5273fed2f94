/-! ===== PURE: the reference goes through a FORMULA ===== -/
def FG (l : Nat) (σ σ' : Sg) : Prop := (∀ c, c ≠ 117 → c ≠ 132 → c ≠ 134 → σ'.1 c = σ.1 c) ∧ σ'.2 = σ.2 ∧ (∀ j, j ≠ 23 → j ≠ 24 → σ'.1 117 j = σ.1 117 j) ∧ ∀ j, j < 5 * l → σ'.1 132 j = σ.1 132 j
theorem FG_refl (l : Nat) (σ : Sg) : FG l σ σ := ⟨fun _ _ _ _ => rfl, rfl, fun _ _ _ => rfl, fun _ _ => rfl⟩
theorem FG_trans {l : Nat} {a b c : Sg} (h : FG l a b) (g : FG l b c) : FG l a c := ⟨fun x h1 h2 h3 => (g.1 x h1 h2 h3).trans (h.1 x h1 h2 h3), g.2.1.trans h.2.1, fun j h1 h2 => (g.2.2.1 j h1 h2).trans (h.2.2.1 j h1 h2), fun j hj => (g.2.2.2 j hj).trans (h.2.2.2 j hj)⟩
theorem FG_mono {l l' : Nat} {a b : Sg} (h : FG l a b) (hl : l' ≤ l) : FG l' a b := ⟨h.1, h.2.1, h.2.2.1, fun j hj => h.2.2.2 j (by omega)⟩
theorem FG_17 {l j : Nat} {x : Int32} {σ : Sg} (hj : j = 23 ∨ j = 24) : FG l σ (si σ 117 j x) := ⟨fun c h1 _ _ => si_c h1, rfl, fun i h1 h2 => si_j (by omega), fun i _ => by rw [si_c (by omega)]⟩
theorem FG_34 {l j : Nat} {x : Int32} {σ : Sg} : FG l σ (si σ 134 j x) := ⟨fun c _ _ h => si_c h, rfl, fun i _ _ => by rw [si_c (by omega)], fun i _ => by rw [si_c (by omega)]⟩
theorem FG_32 {l j : Nat} {x : Int32} {σ : Sg} (hj : 5 * l ≤ j) : FG l σ (si σ 132 j x) := ⟨fun c _ h _ => si_c h, rfl, fun i _ _ => by rw [si_c (by omega)], fun i hi => si_j (by omega)⟩
def GE (c : Nat → Int32) (len q : Nat) (D : Nat → Vc) (σ : Sg) : Prop := len ≤ 72 ∧ q ≤ 8 ∧ σ.1 118 66 = nI len ∧ (∀ j, j < len → σ.1 118 (67 + j) = c j) ∧ (∀ j, len ≤ j → c j = -1) ∧ (∀ j, c j = -1 ∨ ∃ x, x < 256 ∧ c j = nI x) ∧ ∀ k u, dm σ k u = D k u
/-- place, quantities, wrong places -/
def Gst (len : Nat) (s : Pst) (σ : Sg) : Prop := s.1 ≤ len ∧ σ.1 117 23 = nI s.1 ∧ σ.1 117 24 = s.2.2.2 ∧ ∀ j, j < 72 → σ.1 134 j = if s.2.2.1 j = true then 1 else 0
theorem GE_fg {c : Nat → Int32} {len q l : Nat} {D : Nat → Vc} {σ τ : Sg} (h : GE c len q D σ) (f : FG l σ τ) : GE c len q D τ := by
  obtain ⟨h1, h2, h3, h4, h5, h6, h7⟩ := h
  have e := f.1 118 (by omega) (by omega) (by omega)
  exact ⟨h1, h2, by rw [e]; exact h3, fun j hj => by rw [e]; exact h4 j hj, h5, h6, fun k u => by rw [dm_fr e]; exact h7 k u⟩
theorem gc_lt {c : Nat → Int32} {len q : Nat} {D : Nat → Vc} {σ : Sg} (he : GE c len q D σ) {p : Nat} (h : c p ≠ -1) : p < len := by
  rcases Nat.lt_or_ge p len with g | g
  · exact g
  · exact absurd (he.2.2.2.2.1 p g) h
theorem gsign {c : Nat → Int32} {len q : Nat} {D : Nat → Vc} {s : Pst} {σ : Sg} (he : GE c len q D σ) (h : Gst len s σ) : m_sign_117 σ = some (c s.1, σ) := by
  obtain ⟨h1, h2, h3, h4, h5, _⟩ := he
  obtain ⟨g1, g2, _⟩ := h
  unfold m_sign_117 m_sign_117_b30
  have i67 : (67 : Int32) + nI s.1 = nI (67 + s.1) := by rw [show (67 : Int32) = nI 67 from rfl, nI_add]
  rw [h3, g2]
  by_cases e : s.1 < len
  · rw [if_neg (nI_ge e (by omega)), i67, inB_t (by omega) (by omega), gd_t, cl_n (by omega), h4 _ e]
  · rw [if_pos (nI_le (by omega) (by omega)), h5 _ (by omega)]
theorem ggo {len : Nat} {s : Pst} {σ : Sg} (l : Nat) (h : Gst len s σ) (hp : s.1 < len) : Gst len (s.1 + 1, s.2) (si σ 117 23 ((σ.1 117 23) + 1)) ∧ FG l σ (si σ 117 23 ((σ.1 117 23) + 1)) := by
  obtain ⟨g1, g2, g3, g4⟩ := h
  exact ⟨⟨by show s.1 + 1 ≤ len; omega, by rw [si_e, g2, nI_1], by rw [si_j (by omega)]; exact g3, fun j hj => by rw [si_c (by omega)]; exact g4 j hj⟩, FG_17 (Or.inl rfl)⟩
theorem Gst_32 {len : Nat} {s : Pst} {σ τ : Sg} (h : Gst len s σ) (f : FR [132] σ τ) : Gst len s τ := by
  unfold Gst at *
  rw [FR_i f (show ([132] : List Nat).contains 117 = false by decide), FR_i f (show ([132] : List Nat).contains 134 = false by decide)]
  exact h
theorem i5l {l u : Nat} : ((5 : Int32) * nI l) + nI u = nI (5 * l + u) := by rw [show (5 : Int32) = nI 5 from rfl, nI_mul, nI_add]
theorem gzero {l : Nat} {σ : Sg} (hl : l < 40) : ∃ τ, m_sets2_117 (nI l) 0 σ = some ((), τ) ∧ FR [132] σ τ ∧ FG l σ τ ∧ ∀ u, u < 5 → τ.1 132 (5 * l + u) = 0 := by
  unfold m_sets2_117
  refine loopE (L := fun m u s => m_sets2_117_L2 m (nI l) 0 (nI u) s) (N := 5) (P := fun k τ => FR [132] σ τ ∧ FG l σ τ ∧ ∀ u, u < k → τ.1 132 (5 * l + u) = 0) (Q := fun r => ∃ τ, r = some ((), τ) ∧ FR [132] σ τ ∧ FG l σ τ ∧ ∀ u, u < 5 → τ.1 132 (5 * l + u) = 0) ?_ ?_ (by decide) ⟨FR_refl _ _, FG_refl _ _, fun u hu => absurd hu (Nat.not_lt_zero _)⟩
  · rintro m k τ hk ⟨f, g, e⟩
    refine ⟨si τ 132 (5 * l + k) 0, ?_, FR_si f (by decide), FG_trans g (FG_32 (by omega)), ?_⟩
    · show m_sets2_117_H2 (m_sets2_117_L2 m) (nI l) 0 (nI k) τ = _
      unfold m_sets2_117_H2
      rw [if_neg (show ¬ (5 : Int32) ≤ nI k from nI_ge (b := 5) hk (by decide)), i5l, inB_t (by omega) (by omega), gd_t, cl_n (by omega), nI_1]
    · intro u hu
      by_cases e2 : u = k
      · subst e2; rw [si_e]
      · rw [si_j (by omega)]; exact e u (by omega)
  · rintro m τ ⟨f, g, e⟩
    refine ⟨τ, ?_, f, g, e⟩
    show m_sets2_117_H2 (m_sets2_117_L2 m) (nI l) 0 (nI 5) τ = _
    unfold m_sets2_117_H2
    rw [if_pos (show (5 : Int32) ≤ nI 5 by decide)]
/-- a quantity's DIMENSIONS put at a level -/
theorem gput {rs : Int32 → Sg → Option (Unit × Sg)} {l k : Nat} {x : Int32} {σ : Sg} (hl : l < 40) (hk : k < 8) (hx : x - 65 = nI k) : ∃ τ, m_atom_117_L58 rs fu (nI l) x 0 σ = some ((), τ) ∧ FR [132] σ τ ∧ FG l σ τ ∧ ∀ u, u < 5 → τ.1 132 (5 * l + u) = dm σ k u := by
  refine loopE (L := fun m u s => m_atom_117_L58 rs m (nI l) x (nI u) s) (N := 5) (P := fun i τ => FR [132] σ τ ∧ FG l σ τ ∧ ∀ u, u < i → τ.1 132 (5 * l + u) = dm σ k u) (Q := fun r => ∃ τ, r = some ((), τ) ∧ FR [132] σ τ ∧ FG l σ τ ∧ ∀ u, u < 5 → τ.1 132 (5 * l + u) = dm σ k u) ?_ ?_ (by decide) ⟨FR_refl _ _, FG_refl _ _, fun u hu => absurd hu (Nat.not_lt_zero _)⟩
  · rintro m i τ hi ⟨f, g, e⟩
    refine ⟨si τ 132 (5 * l + i) (dm σ k i), ?_, FR_si f (by decide), FG_trans g (FG_32 (by omega)), ?_⟩
    · show m_atom_117_H58 rs (m_atom_117_L58 rs m) (nI l) x (nI i) τ = _
      unfold m_atom_117_H58
      rw [if_neg (show ¬ (5 : Int32) ≤ nI i from nI_ge (b := 5) hi (by decide)), hx, mpw hk hi, bd_s, i5l, inB_t (by omega) (by omega), gd_t, cl_n (by omega), nI_1, dm_fr (show τ.1 118 = σ.1 118 from FR_i f (by decide))]
    · intro u hu
      by_cases e2 : u = i
      · subst e2; rw [si_e]
      · rw [si_j (by omega)]; exact e u (by omega)
  · rintro m τ ⟨f, g, e⟩
    refine ⟨τ, ?_, f, g, e⟩
    show m_atom_117_H58 rs (m_atom_117_L58 rs m) (nI l) x (nI 5) τ = _
    unfold m_atom_117_H58 m_atom_117_b210
    rw [if_pos (show (5 : Int32) ≤ nI 5 by decide)]
/-- the digits of a number -/
theorem gnum {c : Nat → Int32} {len q l : Nat} {D : Nat → Vc} {rs : Int32 → Sg → Option (Unit × Sg)} {t : Nat × (Nat → Bool) × Int32} : ∀ n m (p : Nat) (σ : Sg), n < m → ¬ isD (c (pNum c n p)) = true → GE c len q D σ → Gst len (p, t) σ → ∃ τ, m_atom_117_L180 rs m σ = some ((), τ) ∧ FG l σ τ ∧ Gst len (pNum c n p, t) τ ∧ τ.1 132 = σ.1 132 := by
  intro n
  induction n with
  | zero =>
    intro m p σ hm hd he h
    obtain ⟨m, rfl⟩ : ∃ k, m = k + 1 := ⟨m - 1, by omega⟩
    refine ⟨σ, ?_, FG_refl _ _, h, rfl⟩
    show m_atom_117_H180 rs (m_atom_117_L180 rs m) σ = _
    unfold m_atom_117_H180 m_atom_117_b210
    rw [gsign he h, bd_s, isInD, bd_s, if_neg (show ¬ isD (c (p, t).1) = true from hd), if_pos rfl]
  | succ n ih =>
    intro m p σ hm hd he h
    obtain ⟨m, rfl⟩ : ∃ k, m = k + 1 := ⟨m - 1, by omega⟩
    have st : m_atom_117_L180 rs (m + 1) σ = if isD (c p) = true then m_atom_117_L180 rs m (si σ 117 23 ((σ.1 117 23) + 1)) else some ((), σ) := by
      show m_atom_117_H180 rs (m_atom_117_L180 rs m) σ = _
      unfold m_atom_117_H180 m_atom_117_b210
      rw [gsign he h, bd_s, isInD, bd_s]
      by_cases g : isD (c p) = true
      · rw [if_pos g, if_pos g, if_neg (by decide)]
      · rw [if_neg g, if_neg g, if_pos rfl]
    rw [st]
    by_cases g : isD (c p) = true
    · have e : pNum c (n + 1) p = pNum c n (p + 1) := by
        show (if isD (c p) = true then pNum c n (p + 1) else p) = _
        rw [if_pos g]
      rw [e] at hd ⊢
      rw [if_pos g]
      obtain ⟨a1, a2⟩ := ggo l h (gc_lt he (fun w => by
        have w' : c p = -1 := w
        rw [w'] at g; exact isD_n1 g))
      obtain ⟨τ, y1, y2, y3, y4⟩ := ih m (p + 1) _ (by omega) hd (GE_fg he a2) a1
      exact ⟨τ, y1, FG_trans a2 y2, y3, by rw [y4, si_c (by omega)]⟩
    · have e : pNum c (n + 1) p = p := by
        show (if isD (c p) = true then pNum c n (p + 1) else p) = _
        rw [if_neg g]
      rw [e, if_neg g]
      exact ⟨σ, rfl, FG_refl _ _, h, rfl⟩
theorem gpure {l : Nat} {σ : Sg} (hl : l < 40) : m_isPureAt_117 (nI l) σ = some (if zv (fun u => σ.1 132 (5 * l + u)) = true then 1 else 0, σ) := by
  unfold m_isPureAt_117
  have one : ∀ x : Int32, x = 0 ∨ x = 1 → x &&& 1 = x ∧ x &&& 0 = 0 := by
    rintro x (rfl | rfl) <;> decide
  refine loopE (L := fun m u (s : Int32) => m_isPureAt_117_L4 m (nI l) s (nI u) σ) (N := 5) (s := (1 : Int32)) (P := fun k s => (s = 1 ∧ ∀ u, u < k → σ.1 132 (5 * l + u) = 0) ∨ (s = 0 ∧ ∃ u, u < k ∧ σ.1 132 (5 * l + u) ≠ 0)) (Q := fun r => r = some (if zv (fun u => σ.1 132 (5 * l + u)) = true then 1 else 0, σ)) ?_ ?_ (by decide) (Or.inl ⟨rfl, fun u hu => absurd hu (Nat.not_lt_zero _)⟩)
  · rintro m k s hk h
    have h01 : s = 0 ∨ s = 1 := by rcases h with ⟨h, _⟩ | ⟨h, _⟩ <;> simp [h]
    have st : m_isPureAt_117_L4 (m + 1) (nI l) s (nI k) σ = m_isPureAt_117_L4 m (nI l) (if σ.1 132 (5 * l + k) = 0 then s else 0) (nI (k + 1)) σ := by
      show m_isPureAt_117_H4 (m_isPureAt_117_L4 m) (nI l) s (nI k) σ = _
      unfold m_isPureAt_117_H4 m_isPureAt_117_b28
      rw [if_neg (show ¬ (5 : Int32) ≤ nI k from nI_ge (b := 5) hk (by decide)), i5l, inB_t (by omega) (by omega), gd_t, cl_n (by omega), nI_1, (one s h01).1, (one s h01).2]
      by_cases g : σ.1 132 (5 * l + k) = 0
      · rw [if_pos g, if_pos g]
      · rw [if_neg g, if_neg g]
    refine ⟨_, st, ?_⟩
    by_cases g : σ.1 132 (5 * l + k) = 0
    · rw [if_pos g]
      rcases h with ⟨h1, h2⟩ | ⟨h1, u, h2, h3⟩
      · refine Or.inl ⟨h1, fun u hu => ?_⟩
        by_cases e : u = k
        · rw [e]; exact g
        · exact h2 u (by omega)
      · exact Or.inr ⟨h1, u, by omega, h3⟩
    · rw [if_neg g]
      exact Or.inr ⟨rfl, k, by omega, g⟩
  · rintro m s h
    show m_isPureAt_117_H4 (m_isPureAt_117_L4 m) (nI l) s (nI 5) σ = _
    unfold m_isPureAt_117_H4
    rw [if_pos (show (5 : Int32) ≤ nI 5 by decide)]
    rcases h with ⟨rfl, h2⟩ | ⟨rfl, u, h2, h3⟩
    · rw [if_pos (zv_iff.mpr h2)]; rfl
    · rw [if_neg (fun w => h3 (zv_iff.mp w u h2))]; rfl
/-- a place marked, as the reference does it -/
theorem gmark {len : Nat} {s : Pst} {σ : Sg} (h : Gst len s σ) {a : Nat} (ha : a < 72) (b : Bool) : Gst len (s.1, s.2.1, (if b = true then s.2.2.1 else mrk a s.2.2.1), s.2.2.2) (si σ 134 a (((σ.1 134 a) ||| (if b = true then 0 else 1)) &&& 1)) := by
  obtain ⟨g1, g2, g3, g4⟩ := h
  refine ⟨g1, by rw [si_c (by omega)]; exact g2, by rw [si_c (by omega)]; exact g3, ?_⟩
  intro j hj
  show _ = if (if b = true then s.2.2.1 else mrk a s.2.2.1) j = true then 1 else 0
  by_cases e : j = a
  · subst e
    rw [si_e, g4 j hj]
    cases b
    · rw [if_neg (show ¬ (false = true) by decide), if_neg (show ¬ (false = true) by decide), mrk_e, if_pos rfl]
      by_cases g : s.2.2.1 j = true
      · rw [if_pos g]; decide
      · rw [if_neg g]; decide
    · rw [if_pos rfl, if_pos rfl]
      by_cases g : s.2.2.1 j = true
      · rw [if_pos g]; decide
      · rw [if_neg g]; decide
  · rw [si_j e]
    cases b
    · rw [if_neg (show ¬ (false = true) by decide), mrk_n e]; exact g4 j hj
    · rw [if_pos rfl]; exact g4 j hj
def Gok (len l : Nat) (a : Vc × Pst) (r : Option (Unit × Sg)) (σ : Sg) : Prop := ∃ τ, r = some ((), τ) ∧ FG l σ τ ∧ Gst len a.2 τ ∧ ∀ u, u < 5 → τ.1 132 (5 * l + u) = a.1 u
def GsOk (c : Nat → Int32) (len q : Nat) (D : Nat → Vc) (prs : Pst → Nat ⊕ (Vc × Pst)) (rs : Int32 → Sg → Option (Unit × Sg)) (L : Nat) : Prop := L < 40 ∧ PMr prs ∧ ∀ l s a σ, l ≤ L → prs s = .inr a → ¬ isD (c a.2.1) = true → GE c len q D σ → Gst len s σ → Gok len l a (rs (nI l) σ) σ
theorem isD_41 {x : Int32} (h : x = 41) : ¬ isD x = true := by subst h; decide
theorem isD_94 {x : Int32} (h : x = 94) : ¬ isD x = true := by subst h; decide
theorem isD_mul {x : Int32} (h : x = 42 ∨ x = 47) : ¬ isD x = true := by rcases h with rfl | rfl <;> decide
theorem isD_add {x : Int32} (h : x = 43 ∨ x = 45) : ¬ isD x = true := by rcases h with rfl | rfl <;> decide
theorem isA_Q {x : Int32} {q : Nat} (hq : q ≤ 8) (h : isQ q x = true) (σ : Sg) : m_isIn_s x.toInt64 65 90 σ = some (1, σ) := by
  unfold isQ at h
  simp only [Bool.and_eq_true, decide_eq_true_eq] at h
  exact isIn_in (a := 65) (b := 90) (by omega) (by omega) (by omega)
theorem isA_no {x : Int32} (h : isD x = true ∨ x = 40 ∨ x = 115) (σ : Sg) : m_isIn_s x.toInt64 65 90 σ = some (0, σ) := by
  refine isIn_out (a := 65) (b := 90) (by omega) (by omega) ?_
  rcases h with h | h | h
  · unfold isD at h
    simp only [Bool.and_eq_true, decide_eq_true_eq] at h
    omega
  · subst h; decide
  · subst h; decide
theorem gatom {c : Nat → Int32} {len q L l : Nat} {D : Nat → Vc} {b : Bool} {prs : Pst → Nat ⊕ (Vc × Pst)} {rs : Int32 → Sg → Option (Unit × Sg)} {s : Pst} {a : Vc × Pst} {σ : Sg} (hR : GsOk c len q D prs rs L) (hl : l ≤ L) (hx : pAtom c q D b prs s = .inr a) (hd : ¬ isD (c a.2.1) = true) (he : GE c len q D σ) (h : Gst len s σ) : Gok len l a (m_atom_117 rs (nI l) σ) σ := by
  obtain ⟨hL, hM, hrs⟩ := hR
  have hq := he.2.1
  have hch := he.2.2.2.2.2.1 s.1
  have h23 : σ.1 117 23 = nI s.1 := h.2.1
  have hs72 : s.1 ≤ len ∧ len ≤ 72 := ⟨h.1, he.1⟩
  unfold pAtom at hx
  by_cases g1 : isQ q (c s.1) = true
  · rw [if_pos g1] at hx
    injection hx with hx
    subst hx
    obtain ⟨_, k, hk, e1, e2⟩ := (xq hq hch).resolve_right (fun w => w.1 g1)
    obtain ⟨a1, a2⟩ := ggo l h (gc_lt he (fun w => by rw [w] at g1; revert g1; unfold isQ; simp only [Bool.and_eq_true, decide_eq_true_eq, show (-1 : Int32).toInt = -1 by decide]; omega))
    unfold m_atom_117
    rw [gsign he h, bd_s]
    generalize hτ1 : si σ 117 23 ((σ.1 117 23) + 1) = τ1 at a1 a2
    obtain ⟨τ2, y1, y2, y3, y4⟩ := gzero (l := l) (σ := τ1) (by omega)
    rw [y1, bd_s, isA_Q hq g1, bd_s, if_neg (by decide)]
    have h24 : τ2.1 117 24 = s.2.2.2 := by rw [FR_i y2 (by decide)]; exact a1.2.2.1
    rw [h24]
    obtain ⟨τ3, z1, z2, z3, z4⟩ := gput (rs := rs) (l := l) (k := k) (x := c s.1) (σ := si τ2 117 24 (s.2.2.2 ||| ((1 : Int32) <<< ((c s.1 - 65) &&& 31)))) (by omega) (by omega) e1
    have f2 : FG l σ (si τ2 117 24 (s.2.2.2 ||| ((1 : Int32) <<< ((c s.1 - 65) &&& 31)))) := FG_trans a2 (FG_trans y3 (FG_17 (Or.inr rfl)))
    refine ⟨τ3, z1, FG_trans f2 z3, ?_, ?_⟩
    · refine Gst_32 ?_ z2
      obtain ⟨k1, k2, k3, k4⟩ := Gst_32 a1 y2
      exact ⟨k1, by rw [si_j (by omega)]; exact k2, by rw [si_e], fun j hj => by rw [si_c (by omega)]; exact k4 j hj⟩
    · intro u hu
      rw [z4 u hu, (GE_fg he f2).2.2.2.2.2.2 k u]
      show D k u = D (qx (c s.1)) u
      rw [e2]
  · rw [if_neg g1] at hx
    by_cases g2 : isD (c s.1) = true
    · rw [if_pos g2] at hx
      injection hx with hx
      subst hx
      obtain ⟨a1, a2⟩ := ggo l h (gc_lt he (fun w => by rw [w] at g2; exact isD_n1 g2))
      unfold m_atom_117
      rw [gsign he h, bd_s]
      generalize hτ1 : si σ 117 23 ((σ.1 117 23) + 1) = τ1 at a1 a2
      obtain ⟨τ2, y1, y2, y3, y4⟩ := gzero (l := l) (σ := τ1) (by omega)
      have hn40 : ¬ c s.1 = 40 := fun w => by rw [w] at g2; revert g2; decide
      have hn115 : ¬ c s.1 = 115 := fun w => by rw [w] at g2; revert g2; decide
      rw [y1, bd_s, isA_no (Or.inl g2), bd_s, if_pos rfl, if_neg hn40, if_neg hn115]
      have e3 : pNum c 3 s.1 = pNum c 2 (s.1 + 1) := by
        show (if isD (c s.1) = true then pNum c 2 (s.1 + 1) else s.1) = _
        rw [if_pos g2]
      have f2 := FG_trans a2 y3
      have hd' : ¬ isD (c (pNum c 3 s.1)) = true := hd
      rw [e3] at hd'
      obtain ⟨τ3, z1, z2, z3, z4⟩ := gnum (l := l) (rs := rs) (t := s.2) 2 fu (s.1 + 1) τ2 (by decide) hd' (GE_fg he f2) (Gst_32 a1 y2)
      refine ⟨τ3, z1, FG_trans f2 z2, ?_, fun u hu => by rw [z4, y4 u hu]⟩
      show Gst len (pNum c 3 s.1, s.2) τ3
      rw [e3]; exact z3
    · rw [if_neg g2] at hx
      by_cases g3 : c s.1 = 40 ∧ b = true
      · rw [if_pos g3] at hx
        obtain ⟨e, i1, i2⟩ := pbd_i hx
        obtain ⟨j2, i3⟩ := ite_r i2
        subst i3
        obtain ⟨a1, a2⟩ := ggo l h (gc_lt he (by rw [g3.1]; decide))
        unfold m_atom_117 m_atom_117_b210
        rw [gsign he h, bd_s]
        generalize hτ1 : si σ 117 23 ((σ.1 117 23) + 1) = τ1 at a1 a2
        obtain ⟨τ2, y1, y2, y3, y4⟩ := gzero (l := l) (σ := τ1) (by omega)
        have f2 := FG_trans a2 y3
        obtain ⟨τ3, z1, z2, z3, z4⟩ := hrs l _ e τ2 hl i1 (isD_41 j2) (GE_fg he f2) (Gst_32 a1 y2)
        rw [y1, bd_s, isA_no (Or.inr (Or.inl g3.1)), bd_s, if_pos rfl, if_pos g3.1, z1, bd_s]
        obtain ⟨b1, b2⟩ := ggo l z3 (gc_lt he (by rw [j2]; decide))
        exact ⟨_, rfl, FG_trans f2 (FG_trans z2 b2), b1, fun u hu => by rw [si_c (by omega)]; exact z4 u hu⟩
      · rw [if_neg g3] at hx
        by_cases g4 : c s.1 = 115 ∧ b = true
        · rw [if_pos g4] at hx
          by_cases g5 : c (s.1 + 1) = 40
          · rw [if_pos g5] at hx
            obtain ⟨e, i1, i2⟩ := pbd_i hx
            obtain ⟨j2, i3⟩ := ite_r i2
            subst i3
            have hslt := gc_lt he (p := s.1) (by rw [g4.1]; decide)
            obtain ⟨a1, a2⟩ := ggo l h hslt
            unfold m_atom_117 m_atom_117_b210
            rw [gsign he h, bd_s, h23]
            rw [h23] at a1 a2
            generalize hτ1 : si σ 117 23 ((nI s.1) + 1) = τ1 at a1 a2
            obtain ⟨τ2, y1, y2, y3, y4⟩ := gzero (l := l) (σ := τ1) (by omega)
            have f2 := FG_trans a2 y3
            have hn40 : ¬ c s.1 = 40 := fun w => by rw [w] at g4; exact absurd g4.1 (by decide)
            rw [y1, bd_s, isA_no (Or.inr (Or.inr g4.1)), bd_s, if_pos rfl, if_neg hn40, if_pos g4.1]
            obtain ⟨b1, b2⟩ := ggo l (Gst_32 a1 y2) (gc_lt he (show c (s.1 + 1, s.2).1 ≠ -1 by
              show c (s.1 + 1) ≠ -1
              rw [g5]; decide))
            generalize hτ2' : si τ2 117 23 ((τ2.1 117 23) + 1) = τ2' at b1 b2
            have f3 := FG_trans f2 b2
            obtain ⟨τ3, z1, z2, z3, z4⟩ := hrs l _ e τ2' hl i1 (isD_41 j2) (GE_fg he f3) b1
            rw [z1, bd_s]
            obtain ⟨d1, d2⟩ := ggo l z3 (gc_lt he (by rw [j2]; decide))
            have hz4 : ∀ u, u < 5 → (si τ3 117 23 ((τ3.1 117 23) + 1)).1 132 (5 * l + u) = e.1 u := fun u hu => by rw [si_c (by omega)]; exact z4 u hu
            generalize hτ4 : si τ3 117 23 ((τ3.1 117 23) + 1) = τ4 at d1 d2 hz4
            have f4 := FG_trans f3 (FG_trans z2 d2)
            have hzv : zv (fun u => τ4.1 132 (5 * l + u)) = true ↔ zv e.1 = true := by
              rw [zv_iff, zv_iff]
              constructor
              · intro w u hu; rw [← hz4 u hu]; exact w u hu
              · intro w u hu; rw [hz4 u hu]; exact w u hu
            have hmk := gmark d1 (a := s.1) (by omega) (zv e.1)
            rw [inB_t (by omega) (by omega), gd_t, gpure (by omega), bd_s, cl_n (by omega)]
            have hb : (if (if zv (fun u => τ4.1 132 (5 * l + u)) = true then (1 : Int32) else 0) = 0 then m_atom_117_b169 rs (nI l) (nI s.1) (τ4.1 134 s.1) 1 τ4 else m_atom_117_b169 rs (nI l) (nI s.1) (τ4.1 134 s.1) 0 τ4) = m_atom_117_b169 rs (nI l) (nI s.1) (τ4.1 134 s.1) (if zv e.1 = true then 0 else 1) τ4 := by
              by_cases gz : zv e.1 = true
              · rw [if_pos (hzv.mpr gz), if_pos gz, if_neg (by decide)]
              · rw [if_neg (fun w => gz (hzv.mp w)), if_neg gz, if_pos rfl]
            rw [hb]
            unfold m_atom_117_b169 m_atom_117_b210
            generalize hτ5 : si τ4 134 s.1 (((τ4.1 134 s.1) ||| (if zv e.1 = true then 0 else 1)) &&& 1) = τ5 at hmk
            have f5 : FG l σ τ5 := by rw [← hτ5]; exact FG_trans f4 FG_34
            obtain ⟨τ6, v1, v2, v3, v4⟩ := gzero (l := l) (σ := τ5) (by omega)
            rw [inB_t (by omega) (by omega), gd_t, cl_n (by omega), hτ5, v1, bd_s]
            exact ⟨τ6, rfl, FG_trans f5 v3, Gst_32 hmk v2, v4⟩
          · rw [if_neg g5] at hx; cases hx
        · rw [if_neg g4] at hx; cases hx
