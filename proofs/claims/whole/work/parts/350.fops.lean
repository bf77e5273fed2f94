/-! ===== PURE: wrong, sides, mend ===== -/
theorem mrk_i {a j : Nat} {w : Nat → Bool} (h : mrk a w j = true) : j = a ∨ w j = true := by
  by_cases e : j = a
  · exact Or.inl e
  · rw [mrk_n e] at h; exact Or.inr h
def PWr (prs : Pst → Nat ⊕ (Vc × Pst)) : Prop := ∀ s a, prs s = .inr a → ∀ j, a.2.2.2.1 j = true → s.2.2.1 j = true ∨ j < a.2.1
theorem pAtom_W {c : Nat → Int32} {q : Nat} {D : Nat → Vc} {b : Bool} {prs : Pst → Nat ⊕ (Vc × Pst)} (hr : PMr prs) (hw : PWr prs) {s : Pst} {a : Vc × Pst} (h : pAtom c q D b prs s = .inr a) : ∀ j, a.2.2.2.1 j = true → s.2.2.1 j = true ∨ j < a.2.1 := by
  unfold pAtom at h
  by_cases g1 : isQ q (c s.1) = true
  · rw [if_pos g1] at h
    injection h with h
    subst h
    exact fun j hj => Or.inl hj
  · rw [if_neg g1] at h
    by_cases g2 : isD (c s.1) = true
    · rw [if_pos g2] at h
      injection h with h
      subst h
      exact fun j hj => Or.inl hj
    · rw [if_neg g2] at h
      by_cases g3 : c s.1 = 40 ∧ b = true
      · rw [if_pos g3] at h
        obtain ⟨e, h1, h2⟩ := pbd_i h
        obtain ⟨_, h2⟩ := ite_r h2
        subst h2
        intro j hj
        rcases hw _ _ h1 j hj with k | k
        · exact Or.inl k
        · exact Or.inr (by show j < e.2.1 + 1; omega)
      · rw [if_neg g3] at h
        by_cases g4 : c s.1 = 115 ∧ b = true
        · rw [if_pos g4] at h
          by_cases g5 : c (s.1 + 1) = 40
          · rw [if_pos g5] at h
            obtain ⟨e, h1, h2⟩ := pbd_i h
            obtain ⟨_, h2⟩ := ite_r h2
            subst h2
            have k1 : s.1 + 1 + 1 < e.2.1 := (hr _ _ h1).1
            intro j hj
            have hj' : (if zv e.1 = true then e.2.2.2.1 else mrk s.1 e.2.2.2.1) j = true := hj
            show s.2.2.1 j = true ∨ j < e.2.1 + 1
            have base : e.2.2.2.1 j = true → s.2.2.1 j = true ∨ j < e.2.1 + 1 := fun w => by
              rcases hw _ _ h1 j w with k | k
              · exact Or.inl k
              · exact Or.inr (by omega)
            by_cases gz : zv e.1 = true
            · rw [if_pos gz] at hj'; exact base hj'
            · rw [if_neg gz] at hj'
              rcases mrk_i hj' with k | k
              · exact Or.inr (by omega)
              · exact base k
          · rw [if_neg g5] at h; cases h
        · rw [if_neg g4] at h; cases h
theorem pPart_W {c : Nat → Int32} {q : Nat} {D : Nat → Vc} {b : Bool} {prs : Pst → Nat ⊕ (Vc × Pst)} (hr : PMr prs) (hw : PWr prs) {s : Pst} {a : Vc × Pst} (h : pPart c q D b prs s = .inr a) : ∀ j, a.2.2.2.1 j = true → s.2.2.1 j = true ∨ j < a.2.1 := by
  unfold pPart at h
  obtain ⟨e, h1, h2⟩ := pbd_i h
  have k := pAtom_W hr hw h1
  by_cases g : c e.2.1 = 94
  · rw [if_pos g] at h2
    obtain ⟨_, h2⟩ := ite_r h2
    subst h2
    have := pgo_ge c e.2.1
    intro j hj
    rcases k j hj with k | k
    · exact Or.inl k
    · exact Or.inr (by show j < pgo c e.2.1 + 1; omega)
  · rw [if_neg g] at h2
    injection h2 with h2
    subst h2
    exact k
theorem pTermL_W {c : Nat → Int32} {q : Nat} {D : Nat → Vc} {b : Bool} {prs : Pst → Nat ⊕ (Vc × Pst)} (hr : PMr prs) (hw : PWr prs) : ∀ n (v : Vc) (s : Pst) (a : Vc × Pst), pTermL c q D b prs n v s = .inr a → ∀ j, a.2.2.2.1 j = true → s.2.2.1 j = true ∨ j < a.2.1
  | 0, v, s, a, h => by
    unfold pTermL at h
    injection h with h
    subst h
    exact fun j hj => Or.inl hj
  | n + 1, v, s, a, h => by
    unfold pTermL at h
    by_cases g : c s.1 = 42 ∨ c s.1 = 47
    · rw [if_pos g] at h
      obtain ⟨e, h1, h2⟩ := pbd_i h
      have i1 := (pTermL_M hr n _ _ _ h2).1
      intro j hj
      rcases pTermL_W hr hw n _ _ _ h2 j hj with k | k
      · rcases pPart_W hr hw h1 j k with k | k
        · exact Or.inl k
        · exact Or.inr (by omega)
      · exact Or.inr k
    · rw [if_neg g] at h
      injection h with h
      subst h
      exact fun j hj => Or.inl hj
theorem pTerm_W {c : Nat → Int32} {q : Nat} {D : Nat → Vc} {b : Bool} {prs : Pst → Nat ⊕ (Vc × Pst)} (hr : PMr prs) (hw : PWr prs) {s : Pst} {a : Vc × Pst} (h : pTerm c q D b prs s = .inr a) : ∀ j, a.2.2.2.1 j = true → s.2.2.1 j = true ∨ j < a.2.1 := by
  unfold pTerm at h
  obtain ⟨e, h1, h2⟩ := pbd_i h
  have i1 := (pTermL_M hr 72 _ _ _ h2).1
  intro j hj
  rcases pTermL_W hr hw 72 _ _ _ h2 j hj with k | k
  · rcases pPart_W hr hw h1 j k with k | k
    · exact Or.inl k
    · exact Or.inr (by omega)
  · exact Or.inr k
theorem pSumL_W {c : Nat → Int32} {q : Nat} {D : Nat → Vc} {b : Bool} {prs : Pst → Nat ⊕ (Vc × Pst)} (hr : PMr prs) (hw : PWr prs) : ∀ n (v : Vc) (s : Pst) (a : Vc × Pst), pSumL c q D b prs n v s = .inr a → ∀ j, a.2.2.2.1 j = true → s.2.2.1 j = true ∨ j < a.2.1
  | 0, v, s, a, h => by
    unfold pSumL at h
    injection h with h
    subst h
    exact fun j hj => Or.inl hj
  | n + 1, v, s, a, h => by
    unfold pSumL at h
    by_cases g : c s.1 = 43 ∨ c s.1 = 45
    · rw [if_pos g] at h
      obtain ⟨e, h1, h2⟩ := pbd_i h
      have i1 : e.2.1 ≤ a.2.1 := (pSumL_M hr n _ _ _ h2).1
      have i0 : s.1 + 1 < e.2.1 := (pTerm_M hr h1).1
      intro j hj
      have base : e.2.2.2.1 j = true → s.2.2.1 j = true ∨ j < a.2.1 := fun w => by
        rcases pTerm_W hr hw h1 j w with k | k
        · exact Or.inl k
        · exact Or.inr (by omega)
      rcases pSumL_W hr hw n _ _ _ h2 j hj with k | k
      · have k' : (if eqv e.1 v = true then e.2.2.2.1 else mrk (s.1 + 1) e.2.2.2.1) j = true := k
        by_cases gz : eqv e.1 v = true
        · rw [if_pos gz] at k'; exact base k'
        · rw [if_neg gz] at k'
          rcases mrk_i k' with k | k
          · exact Or.inr (by omega)
          · exact base k
      · exact Or.inr k
    · rw [if_neg g] at h
      injection h with h
      subst h
      exact fun j hj => Or.inl hj
theorem pSumH_W {c : Nat → Int32} {q : Nat} {D : Nat → Vc} {b : Bool} {prs : Pst → Nat ⊕ (Vc × Pst)} (hr : PMr prs) (hw : PWr prs) {s : Pst} {a : Vc × Pst} (h : pSumH c q D b prs s = .inr a) : ∀ j, a.2.2.2.1 j = true → s.2.2.1 j = true ∨ j < a.2.1 := by
  unfold pSumH at h
  obtain ⟨e, h1, h2⟩ := pbd_i h
  have i1 := (pSumL_M hr 72 _ _ _ h2).1
  intro j hj
  rcases pSumL_W hr hw 72 _ _ _ h2 j hj with k | k
  · rcases pTerm_W hr hw h1 j k with k | k
    · exact Or.inl k
    · exact Or.inr (by omega)
  · exact Or.inr k
theorem pSum_W {c : Nat → Int32} {q : Nat} {D : Nat → Vc} : ∀ d, PWr (pSum c q D d)
  | 0 => fun s a h => pSumH_W (prs := fun _ => .inl 0) (fun s a h => (by cases h)) (fun s a h => (by cases h)) h
  | d + 1 => fun s a h => pSumH_W (pSum_M d) (pSum_W d) h
/-- all the wrong places -/
def wW (r : Vc × Vc × Nat × Pst) : Nat → Bool := if eqv r.1 r.2.1 = true then r.2.2.2.2.2.1 else mrk r.2.2.1 r.2.2.2.2.2.1
theorem wW_lt {c : Nat → Int32} {q len : Nat} {D : Nat → Vc} {r : Vc × Vc × Nat × Pst} (h : pBoth c q D = .inr r) (hl : r.2.2.2.1 ≤ len) (hm : r.2.2.1 < len) : ∀ j, wW r j = true → j < len := by
  unfold pBoth at h
  obtain ⟨a, i1, i2⟩ := pbd_i h
  by_cases g : c a.2.1 = 61
  · rw [if_pos g] at i2
    obtain ⟨e, i3, i4⟩ := pbd_i i2
    obtain ⟨_, i5⟩ := ite_r i4
    subst i5
    have hl' : e.2.1 ≤ len := hl
    have hm' : a.2.1 < len := hm
    have base : ∀ j, e.2.2.2.1 j = true → j < len := by
      intro j hj
      rcases pSum_W 6 _ _ i3 j hj with k | k
      · rcases pSum_W 6 _ _ i1 j k with k | k
        · cases k
        · omega
      · omega
    intro j hj
    unfold wW at hj
    by_cases gz : eqv a.1 e.1 = true
    · have hj' : (if eqv a.1 e.1 = true then e.2.2.2.1 else mrk a.2.1 e.2.2.2.1) j = true := hj
      rw [if_pos gz] at hj'; exact base j hj'
    · have hj' : (if eqv a.1 e.1 = true then e.2.2.2.1 else mrk a.2.1 e.2.2.2.1) j = true := hj
      rw [if_neg gz] at hj'
      rcases mrk_i hj' with k | k
      · omega
      · exact base j k
  · rw [if_neg g] at i2; cases i2
/-- a FORMULA that is there, read by both -/
theorem both_read {n q ver : Nat} {σ : Sg} (h : VV n q ver σ) (h7 : ¬ σ.1 1 7 = -9) : ∃ len r τ, len ≤ 72 ∧ ¬ σ.1 118 66 = 0 ∧ j_read_85_14 (σ.1 1 6) σ = some ((), τ) ∧ FR FRR σ τ ∧ Rd len (.inr r) τ ∧ (∀ j, wW r j = true → j < len) ∧ ∀ ρ, ρ.1 118 = σ.1 118 → ∃ ρ', m_goesThrough_117 ρ = some ((), ρ') ∧ FGW ρ ρ' ∧ Gd r ρ' := by
  have hq := vq h
  obtain ⟨len, l1, l2, l3⟩ := (vMR h).2.2.2.2.2
  rcases l3 with m | ⟨m1, m2, m3, m4, m5, m6, r0, m7⟩
  · exact absurd m.1 h7
  · obtain ⟨r, hr⟩ := pBoth_PL (D' := dm σ) (Nat.le_refl q) hq m7
    obtain ⟨τ, x1, x2, x3⟩ := jread_14 (f := fun j => σ.1 118 (67 + j)) h l1 m5 m6
    rw [hr] at x3
    refine ⟨len, r, τ, l1, ?_, by rw [l2]; exact x1, x2, x3, wW_lt hr x3.1.1 x3.1.2, ?_⟩
    · rw [m2]; exact (show ¬ nI len = 0 from fun w => by have := (nI_eq (b := 0) (by omega) (by omega)).mp w; omega)
    · intro ρ e
      refine mgoes (len := len) ⟨l1, hq, by rw [e]; exact m2, ?_, ?_, ?_, fun k u => by rw [dm_fr e]⟩ hr
      · intro j hj
        rw [e]; unfold cA; rw [if_pos hj]
      · intro j hj
        unfold cA; rw [if_neg (by omega)]
      · intro j
        unfold cA
        by_cases g : j < len
        · rw [if_pos g]; exact Or.inr (m6 j g)
        · rw [if_neg g]; exact Or.inl rfl
theorem no_read {n q ver : Nat} {σ : Sg} (h : VV n q ver σ) (h7 : σ.1 1 7 = -9) : σ.1 118 66 = 0 := by
  obtain ⟨len, l1, l2, l3⟩ := (vMR h).2.2.2.2.2
  rcases l3 with m | m
  · exact m.2
  · exact absurd h7 m.2.2.2.1
theorem Kp_gw {σ τ : Sg} (f : FGW σ τ) : Kp σ τ := ⟨fun c hc => ⟨f.1 c (by unfold kp at hc; omega) (by unfold kp at hc; omega) (by unfold kp at hc; omega) (by unfold kp at hc; omega), by rw [f.2.1]⟩, f.2.2 2 (by omega) (by omega) (by omega), f.2.2 5 (by omega) (by omega) (by omega), f.2.2 7 (by omega) (by omega) (by omega)⟩
theorem jhas {σ : Sg} : j_hasFormula_1 σ = some (if σ.1 1 7 = -9 then 0 else 1, σ) := by
  unfold j_hasFormula_1 j_hasFormula_1_b14
  split <;> rfl
/-- the first wrong place from k on, and how many -/
def fw9 (w : Nat → Bool) : Nat → Nat → Int32
  | 0, _ => -9
  | n + 1, k => if w k = true then nI k else fw9 w n (k + 1)
def cw9 (w : Nat → Bool) : Nat → Nat → Nat
  | 0, _ => 0
  | n + 1, k => cw9 w n (k + 1) + if w k = true then 1 else 0
theorem fw9_no {w : Nat → Bool} : ∀ n k, (∀ j, k ≤ j → w j = false) → fw9 w n k = -9
  | 0, _, _ => rfl
  | n + 1, k, h => by
    unfold fw9
    rw [h k (Nat.le_refl _), if_neg (by decide)]
    exact fw9_no n (k + 1) (fun j hj => h j (by omega))
theorem jfirst {w : Nat → Bool} {len : Nat} {σ : Sg} (hl : len ≤ 72) (h2 : σ.1 85 2 = nI len) (hw : ∀ j, j < 72 → σ.1 87 j = if w j = true then 1 else 0) (hlt : ∀ j, w j = true → j < len) : j_firstWrong_85 σ = some (fw9 w 72 0, σ) := by
  unfold j_firstWrong_85
  refine loopQ (fun m k (_ : Unit) => j_firstWrong_85_L2 m (nI k) σ) len (fun k _ => fw9 w (72 - k) k = fw9 w 72 0) (fun r => r = some (fw9 w 72 0, σ)) ?_ ?_ len fu 0 () (by omega) (fu_lt (by omega)) rfl
  · rintro m k _ hk g
    have st : j_firstWrong_85_L2 (m + 1) (nI k) σ = if w k = true then some (nI k, σ) else j_firstWrong_85_L2 m (nI (k + 1)) σ := by
      show j_firstWrong_85_H2 (j_firstWrong_85_L2 m) (nI k) σ = _
      unfold j_firstWrong_85_H2
      rw [h2, if_neg (nI_ge hk (by omega)), inB_t (by omega) (by omega), gd_t, cl_n (by omega), hw k (by omega), nI_1]
      by_cases e : w k = true
      · rw [if_pos e, if_pos rfl, if_pos e]
      · rw [if_neg e, if_neg (by decide), if_neg e]
    rw [show 72 - k = (72 - (k + 1)) + 1 by omega] at g
    unfold fw9 at g
    by_cases e : w k = true
    · rw [if_pos e] at g
      refine Or.inr ?_
      rw [st, if_pos e]
      show some (nI k, σ) = some (fw9 w 72 0, σ)
      rw [g]; rfl
    · rw [if_neg e] at g
      exact Or.inl ⟨(), by rw [st, if_neg e], g⟩
  · rintro m _ g
    show j_firstWrong_85_H2 (j_firstWrong_85_L2 m) (nI len) σ = _
    unfold j_firstWrong_85_H2
    rw [h2, if_pos (nI_le (by omega) (by omega)), ← g, fw9_no]
    intro j hj
    cases e : w j with
    | false => rfl
    | true => have := hlt j e; omega
theorem jcount {w : Nat → Bool} {σ : Sg} (hw : ∀ j, j < 72 → σ.1 87 j = if w j = true then 1 else 0) : j_countWrong_85 σ = some (nI (cw9 w 72 0), σ) := by
  unfold j_countWrong_85
  refine loopE (L := fun m k (s : Nat) => j_countWrong_85_L13 m (nI s) 72 (nI k) σ) (N := 72) (s := 0) (P := fun k s => s + cw9 w (72 - k) k = cw9 w 72 0) (Q := fun r => r = some (nI (cw9 w 72 0), σ)) ?_ ?_ (by decide) (by simp)
  · rintro m k s hk g
    refine ⟨s + (if w k = true then 1 else 0), ?_, ?_⟩
    · show j_countWrong_85_H13 (j_countWrong_85_L13 m) (nI s) 72 (nI k) σ = _
      unfold j_countWrong_85_H13
      rw [if_neg (show ¬ (72 : Int32) ≤ nI k from nI_ge (b := 72) hk (by decide)), inB_t hk (by omega), gd_t, cl_n (by omega), hw k hk, nI_1]
      by_cases e : w k = true
      · rw [if_pos e, if_pos e, nI_1]
      · rw [if_neg e, if_neg e, Int32.add_zero]; rfl
    · have e : cw9 w (72 - k) k = cw9 w (72 - (k + 1)) (k + 1) + (if w k = true then 1 else 0) := by
        rw [show 72 - k = (72 - (k + 1)) + 1 by omega]; rfl
      rw [e] at g
      generalize (if w k = true then 1 else 0) = x at g ⊢
      omega
  · rintro m s g
    show j_countWrong_85_H13 (j_countWrong_85_L13 m) (nI s) 72 (nI 72) σ = _
    unfold j_countWrong_85_H13
    rw [if_pos (show (72 : Int32) ≤ nI 72 by decide), ← g]
    show some (nI s, σ) = some (nI (s + cw9 w 0 72), σ)
    rfl
theorem mwrongL {w : Nat → Bool} {v1 : Int32} {σ : Sg} (hw : ∀ j, j < 72 → σ.1 134 j = if w j = true then 1 else 0) : m_wrong_117_L47 fu v1 0 (-9) 71 σ = some (if v1 = 0 then fw9 w 72 0 else if v1 = 1 then nI (cw9 w 72 0) else σ.1 117 24, σ) := by
  have key : ∀ k m, k ≤ 72 → k < m → m_wrong_117_L47 m v1 (nI (cw9 w (72 - k) k)) (fw9 w (72 - k) k) (nI k + (-1)) σ = some (if v1 = 0 then fw9 w 72 0 else if v1 = 1 then nI (cw9 w 72 0) else σ.1 117 24, σ) := by
    intro k
    induction k with
    | zero =>
      intro m _ hm
      obtain ⟨m, rfl⟩ : ∃ j, m = j + 1 := ⟨m - 1, by omega⟩
      show m_wrong_117_H47 (m_wrong_117_L47 m) v1 _ _ (nI 0 + (-1)) σ = _
      unfold m_wrong_117_H47 m_wrong_117_b114
      rw [if_pos (show nI 0 + (-1) < 0 by decide)]
      by_cases e : v1 = 0
      · rw [if_pos e, if_pos e]
      · rw [if_neg e, if_neg e]
        by_cases e2 : v1 = 1
        · rw [if_pos e2, if_pos e2]
        · rw [if_neg e2, if_neg e2]
    | succ k ih =>
      intro m hk hm
      obtain ⟨m, rfl⟩ : ∃ j, m = j + 1 := ⟨m - 1, by omega⟩
      have e1 : nI (k + 1) + (-1) = nI k := by
        rw [← nI_1, Int32.add_assoc, show (1 : Int32) + -1 = 0 by decide, Int32.add_zero]
      rw [e1]
      have st : m_wrong_117_L47 (m + 1) v1 (nI (cw9 w (72 - (k + 1)) (k + 1))) (fw9 w (72 - (k + 1)) (k + 1)) (nI k) σ = m_wrong_117_L47 m v1 (nI (cw9 w (72 - k) k)) (fw9 w (72 - k) k) (nI k + (-1)) σ := by
        rw [show 72 - k = (72 - (k + 1)) + 1 by omega]
        show m_wrong_117_H47 (m_wrong_117_L47 m) v1 _ _ (nI k) σ = m_wrong_117_L47 m v1 (nI (cw9 w (72 - (k + 1)) (k + 1) + if w k = true then 1 else 0)) (if w k = true then nI k else fw9 w (72 - (k + 1)) (k + 1)) (nI k + (-1)) σ
        unfold m_wrong_117_H47 m_wrong_117_b68 m_wrong_117_b86
        rw [if_neg (nI_pos (by omega)), inB_t (by omega) (by omega), gd_t, gd_t, gd_t, cl_n (by omega), hw k (by omega)]
        by_cases e : w k = true
        · rw [if_pos e, if_neg (by decide), if_neg (by decide), if_pos e, if_pos e, nI_1]
        · rw [if_neg e, if_pos rfl, if_pos rfl, if_neg e, if_neg e, Int32.add_zero]; rfl
      rw [st]
      exact ih m (by omega) (by omega)
  exact key 72 fu (by omega) (by decide)
theorem op_wrong {n q ver : Nat} {σ : Sg} (hn : n < 512) (h : VV n q ver σ) (a : Int32) : ∃ r σ1 σ2, j_wrong_0 a σ = some (r, σ1) ∧ m_wrong_117 a σ1 = some (r, σ2) ∧ VI (n + 1) σ2 := by
  unfold j_wrong_0 j_wrong_0_b9 j_wrong_0_b88 m_wrong_117
  rcases in_out a (q := 3) (by decide) with o | ⟨k, hk, rfl⟩
  · have ho := out_lt (by decide) o
    refine ⟨-2, rj 2 σ, rm 2 (rj 2 σ), ?_, ?_, fin_ref hn (by omega) (by omega) h (Kp_refl _) (Kp_refl _)⟩
    · by_cases g : a < 0
      · rw [if_pos g, jr2, bd_s]
      · rw [if_neg g, if_neg (show ¬ a ≤ 2 from fun w => by
          have := (le_l (b := 2) (by omega)).mp w
          have g2 : ¬ a.toInt < ((0 : Nat) : Int) := fun w => g ((lt_l (a := a) (b := 0) (by omega)).mpr w)
          omega), jr2, bd_s]
    · rw [show m_isIn_s a.toInt64 0 2 (rj 2 σ) = some (0, rj 2 σ) from isIn_out (a := 0) (b := 2) (by omega) (by omega) (by omega), bd_s, if_pos rfl, mr2, bd_s]
  · have hin : ∀ τ, m_isIn_s (nI k).toInt64 0 2 τ = some (1, τ) := fun τ => isIn_in (a := 0) (b := 2) (by omega) (by omega) (by rw [nI_toInt (by omega)]; omega)
    have hk2 : nI k ≤ 2 := (le_l (b := 2) (by omega)).mpr (by rw [nI_toInt (by omega)]; omega)
    by_cases h7 : σ.1 1 7 = -9
    · refine ⟨-3, rj 3 σ, rm 3 (rj 3 σ), ?_, ?_, fin_ref hn (by omega) (by omega) h (Kp_refl _) (Kp_refl _)⟩
      · rw [if_neg (nI_pos (by omega)), if_pos hk2, jhas, bd_s, if_pos h7, if_pos rfl, jr3, bd_s]
      · rw [hin, bd_s, if_neg (by decide), rj_118, if_pos (no_read h h7), mr3, bd_s]
    · obtain ⟨len, r, τ, l1, l66, x1, x2, x3, x4, x5⟩ := both_read h h7
      have kS : Kp σ τ := Kp_FR (FR_mono FRR_scr x2)
      have e118 : τ.1 118 = σ.1 118 := FR_i x2 (by decide)
      obtain ⟨ρ, y1, y2, y3⟩ := x5 τ e118
      obtain ⟨_, p2, p4, p5, p6, p7, pa, pb⟩ := x3
      obtain ⟨g24, gw, ga, gb⟩ := y3
      refine ⟨if nI k = 0 then fw9 (wW r) 72 0 else if nI k = 1 then nI (cw9 (wW r) 72 0) else r.2.2.2.2.2.2, τ, ρ, ?_, ?_, fin_kp hn h (Kp_trans kS (Kp_gw y2))⟩
      · rw [if_neg (nI_pos (by omega)), if_pos hk2, jhas, bd_s, if_neg h7, if_neg (by decide), x1, bd_s]
        by_cases e : nI k = 0
        · rw [if_pos e, if_pos e, jfirst (w := wW r) l1 p2 p7 x4, bd_s]
        · rw [if_neg e, if_neg e]
          by_cases e2 : nI k = 1
          · rw [if_pos e2, if_pos e2, jcount (w := wW r) p7, bd_s]
          · rw [if_neg e2, if_neg e2, p6]
      · rw [hin, bd_s, if_neg (by decide), e118, if_neg l66, y1, bd_s, mwrongL (w := wW r) gw, g24]
theorem op_sides {n q ver : Nat} {σ : Sg} (hn : n < 512) (h : VV n q ver σ) (a b : Int32) : ∃ r σ1 σ2, j_sides_0 a b σ = some (r, σ1) ∧ m_sides_117 a b σ1 = some (r, σ2) ∧ VI (n + 1) σ2 := by
  unfold j_sides_0 j_sides_0_b22 j_sides_0_b106 m_sides_117 m_sides_117_b84
  rcases in_out b (q := 5) (by decide) with o | ⟨u, hu, rfl⟩
  · refine ⟨1000000000 - (-1), rj 1 σ, rm 1 (rj 1 σ), ?_, ?_, fin_ref hn (by omega) (by omega) h (Kp_refl _) (Kp_refl _)⟩
    · rw [jun_out o, bd_s, if_pos rfl, jrf1, bd_s]
    · rw [mun_out o, bd_s, if_pos rfl, mrf1, bd_s]
  · rcases in_out a (q := 3) (by decide) with o | ⟨k, hk, rfl⟩
    · have ho := out_lt (by decide) o
      refine ⟨1000000000 - (-2), rj 2 σ, rm 2 (rj 2 σ), ?_, ?_, fin_ref hn (by omega) (by omega) h (Kp_refl _) (Kp_refl _)⟩
      · rw [jun_in hu, bd_s, if_neg (by decide)]
        by_cases g : a < 0
        · rw [if_pos g, jrf2, bd_s]
        · rw [if_neg g, if_neg (show ¬ a ≤ 2 from fun w => by
            have := (le_l (b := 2) (by omega)).mp w
            have g2 : ¬ a.toInt < ((0 : Nat) : Int) := fun w => g ((lt_l (a := a) (b := 0) (by omega)).mpr w)
            omega), jrf2, bd_s]
      · rw [mun_in hu, bd_s, if_neg (by decide), show m_isIn_s a.toInt64 0 2 (rj 2 σ) = some (0, rj 2 σ) from isIn_out (a := 0) (b := 2) (by omega) (by omega) (by omega), bd_s, if_pos rfl, mrf2, bd_s]
    · have hin : ∀ τ, m_isIn_s (nI k).toInt64 0 2 τ = some (1, τ) := fun τ => isIn_in (a := 0) (b := 2) (by omega) (by omega) (by rw [nI_toInt (by omega)]; omega)
      have hk2 : nI k ≤ 2 := (le_l (b := 2) (by omega)).mpr (by rw [nI_toInt (by omega)]; omega)
      by_cases h7 : σ.1 1 7 = -9
      · refine ⟨1000000000 - (-3), rj 3 σ, rm 3 (rj 3 σ), ?_, ?_, fin_ref hn (by omega) (by omega) h (Kp_refl _) (Kp_refl _)⟩
        · rw [jun_in hu, bd_s, if_neg (by decide), if_neg (nI_pos (by omega)), if_pos hk2, jhas, bd_s, if_pos h7, if_pos rfl, jrf3, bd_s]
        · rw [mun_in hu, bd_s, if_neg (by decide), hin, bd_s, if_neg (by decide), rj_118, if_pos (no_read h h7), mrf3, bd_s]
      · obtain ⟨len, r, τ, l1, l66, x1, x2, x3, x4, x5⟩ := both_read h h7
        have kS : Kp σ τ := Kp_FR (FR_mono FRR_scr x2)
        have e118 : τ.1 118 = σ.1 118 := FR_i x2 (by decide)
        obtain ⟨ρ, y1, y2, y3⟩ := x5 τ e118
        obtain ⟨_, p2, p4, p5, p6, p7, pa, pb⟩ := x3
        obtain ⟨g24, gw, ga, gb⟩ := y3
        have i5 : (5 : Int32) + nI u = nI (5 + u) := by rw [show (5 : Int32) = nI 5 from rfl, nI_add]
        refine ⟨if k = 0 then r.1 u else if k = 1 then r.2.1 u else r.1 u - r.2.1 u, τ, ρ, ?_, ?_, fin_kp hn h (Kp_trans kS (Kp_gw y2))⟩
        · rw [jun_in hu, bd_s, if_neg (by decide), if_neg (nI_pos (by omega)), if_pos hk2, jhas, bd_s, if_neg h7, if_neg (by decide), x1, bd_s]
          unfold j_lacks_85
          rw [inB_t hu (by omega), gd_t, gd_t, gd_t, gd_t, bd_s, cl_n (by omega), pa u hu, pb u hu]
          rcases (show k = 0 ∨ k = 1 ∨ k = 2 by omega) with rfl | rfl | rfl
          · rw [if_pos (show nI 0 = 0 from rfl), if_pos rfl]
          · rw [if_neg (show ¬ nI 1 = 0 by decide), if_pos (show nI 1 = 1 from rfl), if_neg (by decide), if_pos rfl]
          · rw [if_neg (show ¬ nI 2 = 0 by decide), if_neg (show ¬ nI 2 = 1 by decide), if_neg (by decide), if_neg (by decide)]
        · rw [mun_in hu, bd_s, if_neg (by decide), hin, bd_s, if_neg (by decide), e118, if_neg l66, y1, bd_s]
          rcases (show k = 0 ∨ k = 1 ∨ k = 2 by omega) with rfl | rfl | rfl
          · rw [if_neg (show ¬ (2 : Int32) ≤ nI 0 by decide), i5l, inB_t (by omega) (by omega), gd_t, cl_n (by omega), if_pos rfl, show 5 * 0 + u = u by omega, ga u hu]
          · rw [if_neg (show ¬ (2 : Int32) ≤ nI 1 by decide), i5l, inB_t (by omega) (by omega), gd_t, cl_n (by omega), if_neg (by decide), if_pos rfl, show 5 * 1 + u = 5 + u by omega, gb u hu]
          · rw [if_pos (show (2 : Int32) ≤ nI 2 by decide), i5, inB_t (by omega) (by omega), gd_t, inB_t (by omega) (by omega), gd_t, cl_n (by omega), cl_n (by omega), if_neg (by decide), if_neg (by decide), ga u hu, gb u hu]
theorem fwf_fr {σ σ1 : Sg} (h : dm σ1 = dm σ) (q : Nat) (W : Nat → Int) : ∀ e len, fwf σ1 q W e len = fwf σ q W e len := by
  have hfz : fvz σ1 = fvz σ := by
    funext f u; unfold fvz dZ; rw [h]
  have hfs : ∀ d v, fws σ1 q d v = fws σ q d v := by
    intro d
    induction d with
    | zero => intro v; rfl
    | succ d ih =>
      intro v
      unfold fws
      have : (fun f => fws σ1 q d (fun u => v u - fvz σ1 f u)) = (fun f => fws σ q d (fun u => v u - fvz σ f u)) := by
        funext f; rw [ih, hfz]
      rw [this]
  intro e
  induction e with
  | zero => intro len; rfl
  | succ e ih => intro len; unfold fwf; rw [hfs, ih]
theorem op_mend {n q ver : Nat} {σ : Sg} (hn : n < 512) (h : VV n q ver σ) (a : Int32) : ∃ r σ1 σ2, j_mend_0 a σ = some (r, σ1) ∧ m_mend_117 a σ1 = some (r, σ2) ∧ VI (n + 1) σ2 := by
  unfold j_mend_0 m_mend_117
  by_cases hb : -1 ≤ a
  · rw [if_pos hb]
    by_cases h7 : σ.1 1 7 = -9
    · refine ⟨-3, rj 3 σ, rm 3 (rj 3 σ), ?_, ?_, fin_ref hn (by omega) (by omega) h (Kp_refl _) (Kp_refl _)⟩
      · rw [jhas, bd_s, if_pos h7, if_pos rfl, jr3, bd_s]
      · rw [if_pos hb, rj_118, if_pos (no_read h h7), mr3, bd_s]
    · obtain ⟨len, r, τ, l1, l66, x1, x2, x3, x4, x5⟩ := both_read h h7
      have kS : Kp σ τ := Kp_FR (FR_mono FRR_scr x2)
      have e118 : τ.1 118 = σ.1 118 := FR_i x2 (by decide)
      obtain ⟨_, p2, p4, p5, p6, p7, pa, pb⟩ := x3
      -- what lacks
      have jl : ∃ τ2, j_mend_0_L52 fu a 0 τ = (bd (j_fewestAt_80_115 a τ2) fun r1 σ1 => some (r1, σ1)) ∧ FR [115] τ τ2 ∧ ∀ u, u < 5 → τ2.1 115 u = r.1 u - r.2.1 u := by
        refine loopE (L := fun m u s => j_mend_0_L52 m a (nI u) s) (N := 5) (P := fun k ρ => FR [115] τ ρ ∧ ∀ u, u < k → ρ.1 115 u = r.1 u - r.2.1 u) (Q := fun x => ∃ τ2, x = (bd (j_fewestAt_80_115 a τ2) fun r1 σ1 => some (r1, σ1)) ∧ FR [115] τ τ2 ∧ ∀ u, u < 5 → τ2.1 115 u = r.1 u - r.2.1 u) ?_ ?_ (by decide) ⟨FR_refl _ _, fun u hu => absurd hu (Nat.not_lt_zero _)⟩
        · rintro m k ρ hk ⟨f, g⟩
          refine ⟨si ρ 115 k (r.1 k - r.2.1 k), ?_, FR_si f (by decide), ?_⟩
          · show j_mend_0_H52 (j_mend_0_L52 m) a (nI k) ρ = _
            unfold j_mend_0_H52 j_lacks_85
            rw [if_neg (show ¬ (5 : Int32) ≤ nI k from nI_ge (b := 5) hk (by decide)), inB_t hk (by omega), gd_t, gd_t, bd_s, gd_t, cl_n (by omega), nI_1, FR_i f (show ([115] : List Nat).contains 105 = false by decide), FR_i f (show ([115] : List Nat).contains 106 = false by decide), pa k hk, pb k hk]
          · intro u hu
            by_cases e : u = k
            · subst e; rw [si_e]
            · rw [si_j e]; exact g u (by omega)
        · rintro m ρ ⟨f, g⟩
          refine ⟨ρ, ?_, f, g⟩
          show j_mend_0_H52 (j_mend_0_L52 m) a (nI 5) ρ = _
          unfold j_mend_0_H52
          rw [if_pos (show (5 : Int32) ≤ nI 5 by decide)]
      obtain ⟨τ2, y1, y2, y3⟩ := jl
      have k2 : Kp σ τ2 := Kp_trans kS (Kp_S y2 (by decide))
      have hv2 := VV_kp h k2
      obtain ⟨τ3, f3, y4⟩ := jfa (W := fun u => (r.1 u - r.2.1 u).toInt) hv2 hb (fun u hu => by rw [y3 u hu])
      have k3 : Kp σ τ3 := Kp_trans k2 (Kp_S f3 (by decide))
      obtain ⟨ρ, z1, z2, z3⟩ := x5 τ3 (K118 k3)
      obtain ⟨g24, gw, ga, gb⟩ := z3
      have ml : ∃ ρ2, m_mend_117_L33 fu a 0 ρ = (bd (m_fewestOf_117 a ρ2) fun r1 σ1 => some (r1, σ1)) ∧ FR [130] ρ ρ2 ∧ ∀ u, u < 5 → ρ2.1 130 u = r.1 u - r.2.1 u := by
        refine loopE (L := fun m u s => m_mend_117_L33 m a (nI u) s) (N := 5) (P := fun k τ => FR [130] ρ τ ∧ ∀ u, u < k → τ.1 130 u = r.1 u - r.2.1 u) (Q := fun x => ∃ ρ2, x = (bd (m_fewestOf_117 a ρ2) fun r1 σ1 => some (r1, σ1)) ∧ FR [130] ρ ρ2 ∧ ∀ u, u < 5 → ρ2.1 130 u = r.1 u - r.2.1 u) ?_ ?_ (by decide) ⟨FR_refl _ _, fun u hu => absurd hu (Nat.not_lt_zero _)⟩
        · rintro m k τ hk ⟨f, g⟩
          have i5 : (5 : Int32) + nI k = nI (5 + k) := by rw [show (5 : Int32) = nI 5 from rfl, nI_add]
          refine ⟨si τ 130 k (r.1 k - r.2.1 k), ?_, FR_si f (by decide), ?_⟩
          · show m_mend_117_H33 (m_mend_117_L33 m) a (nI k) τ = _
            unfold m_mend_117_H33
            rw [if_neg (show ¬ (5 : Int32) ≤ nI k from nI_ge (b := 5) hk (by decide)), inB_t (by omega) (by omega), gd_t, i5, inB_t (by omega) (by omega), gd_t, inB_t hk (by omega), gd_t, cl_n (by omega), cl_n (by omega), nI_1, FR_i f (by decide), ga k hk, gb k hk]
          · intro u hu
            by_cases e : u = k
            · subst e; rw [si_e]
            · rw [si_j e]; exact g u (by omega)
        · rintro m τ ⟨f, g⟩
          refine ⟨τ, ?_, f, g⟩
          show m_mend_117_H33 (m_mend_117_L33 m) a (nI 5) τ = _
          unfold m_mend_117_H33
          rw [if_pos (show (5 : Int32) ≤ nI 5 by decide)]
      obtain ⟨ρ2, u1, u2, u3⟩ := ml
      have k4 : Kp τ3 ρ2 := Kp_trans (Kp_gw z2) (Kp_S u2 (by decide))
      obtain ⟨ρ3, v1, v2⟩ := mfo (W := fun u => (r.1 u - r.2.1 u).toInt) (τ0 := ρ2) h ((K118 k4).trans (K118 k3)) hb (fun u hu => by rw [u3 u hu])
      rw [fwf_fr (Kdm k2)] at y4
      refine ⟨fwv (fwf σ q (fun u => (r.1 u - r.2.1 u).toInt) 4 0) a, τ3, ρ3, ?_, ?_, fin_kp hn h (Kp_trans k3 (Kp_trans k4 (Kp_S v1 (by decide))))⟩
      · rw [jhas, bd_s, if_neg h7, if_neg (by decide), x1, bd_s, y1, y4, bd_s]
      · rw [if_pos hb, K118 k3, if_neg l66, z1, bd_s, u1, v2, bd_s]
  · rw [if_neg hb]
    refine ⟨-4, rj 4 σ, rm 4 (rj 4 σ), ?_, ?_, fin_ref hn (by omega) (by omega) h (Kp_refl _) (Kp_refl _)⟩
    · rw [jr4, bd_s]
    · rw [if_neg hb, mr4, bd_s]
