/-! ===== PURE: reading goes on ===== -/
def PMp (s : Pst) (a : Vc × Pst) : Prop := s.1 < a.2.1 ∧ s.2.1 ≤ a.2.2.1 ∧ a.2.2.1 + s.1 + 1 ≤ s.2.1 + a.2.1
def PMt (s : Pst) (a : Vc × Pst) : Prop := s.1 < a.2.1 ∧ s.2.1 < a.2.2.1 ∧ a.2.2.1 + s.1 ≤ s.2.1 + a.2.1
def PMr (prs : Pst → Nat ⊕ (Vc × Pst)) : Prop := ∀ s a, prs s = .inr a → PMt s a
theorem pNum_ge (c : Nat → Int32) : ∀ n p, p ≤ pNum c n p
  | 0, p => Nat.le_refl _
  | n + 1, p => by
    unfold pNum
    split
    · have := pNum_ge c n (p + 1); omega
    · exact Nat.le_refl _
theorem pbd_i {α β : Type} {x : Nat ⊕ α} {f : α → Nat ⊕ β} {b : β} (h : pbd x f = .inr b) : ∃ a, x = .inr a ∧ f a = .inr b := by
  cases x with
  | inl p => cases h
  | inr a => exact ⟨a, rfl, h⟩
theorem ite_r {α : Type} {p : Prop} [Decidable p] {a b : α} {q : Nat} (h : (if p then (Sum.inr a : Nat ⊕ α) else Sum.inl q) = Sum.inr b) : p ∧ a = b := by
  by_cases g : p
  · rw [if_pos g] at h
    exact ⟨g, by injection h⟩
  · rw [if_neg g] at h; cases h
theorem pAtom_M {c : Nat → Int32} {q : Nat} {D : Nat → Vc} {b : Bool} {prs : Pst → Nat ⊕ (Vc × Pst)} (hr : PMr prs) {s : Pst} {a : Vc × Pst} (h : pAtom c q D b prs s = .inr a) : PMp s a := by
  unfold pAtom at h
  by_cases g1 : isQ q (c s.1) = true
  · rw [if_pos g1] at h
    injection h with h
    subst h
    exact ⟨Nat.lt_succ_self _, Nat.le_refl _, by show s.2.1 + s.1 + 1 ≤ s.2.1 + (s.1 + 1); omega⟩
  · rw [if_neg g1] at h
    by_cases g2 : isD (c s.1) = true
    · rw [if_pos g2] at h
      injection h with h
      subst h
      have h3 : pNum c 3 s.1 = pNum c 2 (s.1 + 1) := by
        show (if isD (c s.1) = true then pNum c 2 (s.1 + 1) else s.1) = _
        rw [if_pos g2]
      have := pNum_ge c 2 (s.1 + 1)
      refine ⟨?_, Nat.le_refl _, ?_⟩
      · show s.1 < pNum c 3 s.1; omega
      · show s.2.1 + s.1 + 1 ≤ s.2.1 + pNum c 3 s.1; omega
    · rw [if_neg g2] at h
      by_cases g3 : c s.1 = 40 ∧ b = true
      · rw [if_pos g3] at h
        obtain ⟨e, h1, h2⟩ := pbd_i h
        obtain ⟨_, h2⟩ := ite_r h2
        subst h2
        obtain ⟨k1, k2, k3⟩ := hr _ _ h1
        have k1' : s.1 + 1 < e.2.1 := k1
        have k2' : s.2.1 < e.2.2.1 := k2
        have k3' : e.2.2.1 + (s.1 + 1) ≤ s.2.1 + e.2.1 := k3
        exact ⟨by show s.1 < e.2.1 + 1; omega, by show s.2.1 ≤ e.2.2.1; omega, by show e.2.2.1 + s.1 + 1 ≤ s.2.1 + (e.2.1 + 1); omega⟩
      · rw [if_neg g3] at h
        by_cases g4 : c s.1 = 115 ∧ b = true
        · rw [if_pos g4] at h
          by_cases g5 : c (s.1 + 1) = 40
          · rw [if_pos g5] at h
            obtain ⟨e, h1, h2⟩ := pbd_i h
            obtain ⟨_, h2⟩ := ite_r h2
            subst h2
            obtain ⟨k1, k2, k3⟩ := hr _ _ h1
            have k1' : s.1 + 1 + 1 < e.2.1 := k1
            have k2' : s.2.1 < e.2.2.1 := k2
            have k3' : e.2.2.1 + (s.1 + 1 + 1) ≤ s.2.1 + e.2.1 := k3
            exact ⟨by show s.1 < e.2.1 + 1; omega, by show s.2.1 ≤ e.2.2.1; omega, by show e.2.2.1 + s.1 + 1 ≤ s.2.1 + (e.2.1 + 1); omega⟩
          · rw [if_neg g5] at h; cases h
        · rw [if_neg g4] at h; cases h
theorem pgo_ge (c : Nat → Int32) (p : Nat) : p < pgo c p := by
  unfold pgo
  split <;> omega
theorem pPart_M {c : Nat → Int32} {q : Nat} {D : Nat → Vc} {b : Bool} {prs : Pst → Nat ⊕ (Vc × Pst)} (hr : PMr prs) {s : Pst} {a : Vc × Pst} (h : pPart c q D b prs s = .inr a) : PMp s a := by
  unfold pPart at h
  obtain ⟨e, h1, h2⟩ := pbd_i h
  obtain ⟨k1, k2, k3⟩ := pAtom_M hr h1
  by_cases g : c e.2.1 = 94
  · rw [if_pos g] at h2
    obtain ⟨_, h2⟩ := ite_r h2
    subst h2
    have := pgo_ge c e.2.1
    exact ⟨by show s.1 < pgo c e.2.1 + 1; omega, k2, by show e.2.2.1 + s.1 + 1 ≤ s.2.1 + (pgo c e.2.1 + 1); omega⟩
  · rw [if_neg g] at h2
    injection h2 with h2
    subst h2
    exact ⟨k1, k2, k3⟩
theorem pTermL_M {c : Nat → Int32} {q : Nat} {D : Nat → Vc} {b : Bool} {prs : Pst → Nat ⊕ (Vc × Pst)} (hr : PMr prs) : ∀ n (v : Vc) (s : Pst) (a : Vc × Pst), pTermL c q D b prs n v s = .inr a → s.1 ≤ a.2.1 ∧ s.2.1 ≤ a.2.2.1 ∧ a.2.2.1 + s.1 ≤ s.2.1 + a.2.1
  | 0, v, s, a, h => by
    unfold pTermL at h
    injection h with h
    subst h
    exact ⟨Nat.le_refl _, Nat.le_refl _, Nat.le_refl _⟩
  | n + 1, v, s, a, h => by
    unfold pTermL at h
    by_cases g : c s.1 = 42 ∨ c s.1 = 47
    · rw [if_pos g] at h
      obtain ⟨e, h1, h2⟩ := pbd_i h
      obtain ⟨k1, k2, k3⟩ := pPart_M hr h1
      have k1' : s.1 + 1 < e.2.1 := k1
      have k2' : s.2.1 ≤ e.2.2.1 := k2
      have k3' : e.2.2.1 + (s.1 + 1) + 1 ≤ s.2.1 + e.2.1 := k3
      obtain ⟨i1, i2, i3⟩ := pTermL_M hr n _ _ _ h2
      omega
    · rw [if_neg g] at h
      injection h with h
      subst h
      exact ⟨Nat.le_refl _, Nat.le_refl _, Nat.le_refl _⟩
theorem pTerm_M {c : Nat → Int32} {q : Nat} {D : Nat → Vc} {b : Bool} {prs : Pst → Nat ⊕ (Vc × Pst)} (hr : PMr prs) {s : Pst} {a : Vc × Pst} (h : pTerm c q D b prs s = .inr a) : PMt s a := by
  unfold pTerm at h
  obtain ⟨e, h1, h2⟩ := pbd_i h
  obtain ⟨k1, k2, k3⟩ := pPart_M hr h1
  have k1' : s.1 < e.2.1 := k1
  have k2' : s.2.1 + 1 ≤ e.2.2.1 := k2
  have k3' : e.2.2.1 + s.1 + 1 ≤ s.2.1 + 1 + e.2.1 := k3
  obtain ⟨i1, i2, i3⟩ := pTermL_M hr 72 _ _ _ h2
  exact ⟨by omega, by omega, by omega⟩
theorem pSumL_M {c : Nat → Int32} {q : Nat} {D : Nat → Vc} {b : Bool} {prs : Pst → Nat ⊕ (Vc × Pst)} (hr : PMr prs) : ∀ n (v : Vc) (s : Pst) (a : Vc × Pst), pSumL c q D b prs n v s = .inr a → s.1 ≤ a.2.1 ∧ s.2.1 ≤ a.2.2.1 ∧ a.2.2.1 + s.1 ≤ s.2.1 + a.2.1
  | 0, v, s, a, h => by
    unfold pSumL at h
    injection h with h
    subst h
    exact ⟨Nat.le_refl _, Nat.le_refl _, Nat.le_refl _⟩
  | n + 1, v, s, a, h => by
    unfold pSumL at h
    by_cases g : c s.1 = 43 ∨ c s.1 = 45
    · rw [if_pos g] at h
      obtain ⟨e, h1, h2⟩ := pbd_i h
      obtain ⟨k1, k2, k3⟩ := pTerm_M hr h1
      have k1' : s.1 + 1 < e.2.1 := k1
      have k2' : s.2.1 < e.2.2.1 := k2
      have k3' : e.2.2.1 + (s.1 + 1) ≤ s.2.1 + e.2.1 := k3
      obtain ⟨i1, i2, i3⟩ := pSumL_M hr n _ _ _ h2
      have i1' : e.2.1 ≤ a.2.1 := i1
      have i2' : e.2.2.1 ≤ a.2.2.1 := i2
      have i3' : a.2.2.1 + e.2.1 ≤ e.2.2.1 + a.2.1 := i3
      omega
    · rw [if_neg g] at h
      injection h with h
      subst h
      exact ⟨Nat.le_refl _, Nat.le_refl _, Nat.le_refl _⟩
theorem pSumH_M {c : Nat → Int32} {q : Nat} {D : Nat → Vc} {b : Bool} {prs : Pst → Nat ⊕ (Vc × Pst)} (hr : PMr prs) {s : Pst} {a : Vc × Pst} (h : pSumH c q D b prs s = .inr a) : PMt s a := by
  unfold pSumH at h
  obtain ⟨e, h1, h2⟩ := pbd_i h
  obtain ⟨k1, k2, k3⟩ := pTerm_M hr h1
  obtain ⟨i1, i2, i3⟩ := pSumL_M hr 72 _ _ _ h2
  exact ⟨by omega, by omega, by omega⟩
theorem pSum_M {c : Nat → Int32} {q : Nat} {D : Nat → Vc} : ∀ d, PMr (pSum c q D d)
  | 0 => fun s a h => pSumH_M (prs := fun _ => .inl 0) (fun s a h => by cases h) h
  | d + 1 => fun s a h => pSumH_M (pSum_M d) h
/-! the reference reads parts, terms, sums, both sides -/
theorem mpart {c : Nat → Int32} {len q : Nat} {D : Nat → Vc} {b : Bool} {prs : Pst → Nat ⊕ (Vc × Pst)} {rs : Sg → Option (Int32 × Sg)} {o : Nat} {s : Pst} {σ : Sg} (hR : MsOk c len q b prs rs o) (he : RE c len q σ) (h : Rst len o s σ) : Mok len o (pPart c q D b prs s) (m_readsPart_117 rs σ) σ := by
  have w := matom (D := D) hR he h
  unfold m_readsPart_117 pPart
  cases hx : pAtom c q D b prs s with
  | inl p =>
    rw [hx] at w
    obtain ⟨τ, y1, y2, y3⟩ := w
    exact ⟨τ, by rw [y1, bd_s, if_pos rfl], y2, y3⟩
  | inr a =>
    rw [hx] at w
    obtain ⟨τ, y1, y2, y3⟩ := w
    have he1 := RE_fk he y2
    rw [pbd_r, y1, bd_s, if_neg (show ¬ (1 : Int32) = 0 by decide), mhere he1 y3, bd_s]
    by_cases g : c a.2.1 = 94
    · rw [if_pos g, if_pos g]
      obtain ⟨a1, a2⟩ := mgo y3 (rc_lt he (by rw [g]; decide))
      generalize hτ1 : si τ 117 17 ((τ.1 117 17) + 1) = τ1 at a1 a2
      have he2 := RE_fk he1 a2
      have hc1 : c (a.2.1 + 1, a.2.2).1 = c (a.2.1 + 1) := rfl
      rw [mhere he2 a1, bd_s, hc1]
      -- from the digit on
      have b49 : ∀ (p : Nat) (s1 s2 : Int32) (ρ : Sg), FK σ ρ → Rst len o (p, a.2.2) (si ρ 117 17 (s1 + s2)) → ∀ v : Vc, Mok len o (if isD (c p) = true then .inr (v, (p + 1, a.2.2)) else .inl p) (m_readsPart_117_b49 rs s1 s2 ρ) σ := by
        intro p s1 s2 ρ f hs v
        have f' : FK σ (si ρ 117 17 (s1 + s2)) := FK_si f (Or.inl rfl)
        unfold m_readsPart_117_b49 m_readsPart_117_b72
        rw [mdig (RE_fk he f') hs, bd_s]
        obtain ⟨k1, k2, k3, k4⟩ := hs
        by_cases g2 : isD (c p) = true
        · rw [if_pos g2, if_pos g2, if_neg (by decide), k2]
          have hp := rc_lt he (p := p) (fun w => by rw [w] at g2; exact isD_n1 g2)
          refine ⟨_, rfl, FK_si f' (Or.inl rfl), ?_, ?_, ?_, ?_⟩
          · show p + 1 ≤ len; omega
          · rw [si_e, nI_1]
          · rw [si_j (by omega)]; exact k3
          · rw [si_j (by omega)]; exact k4
        · rw [if_neg g2, if_neg g2, if_pos rfl, k2]
          exact ⟨_, rfl, FK_si f' (Or.inl rfl), by rw [si_e, Int32.add_zero]⟩
      have h17 : τ1.1 117 17 = nI (a.2.1 + 1) := a1.2.1
      by_cases g3 : c (a.2.1 + 1) = 45
      · rw [if_pos g3, h17]
        have e1 : pgo c a.2.1 = a.2.1 + 1 + 1 := by unfold pgo; rw [if_pos g3]
        rw [e1]
        obtain ⟨d1, d2⟩ := mgo a1 (rc_lt he (by rw [hc1, g3]; decide))
        refine b49 (a.2.1 + 1 + 1) (nI (a.2.1 + 1)) 1 τ1 (FK_trans y2 a2) ?_ _
        rw [h17] at d1
        exact d1
      · rw [if_neg g3, h17]
        have e1 : pgo c a.2.1 = a.2.1 + 1 := by unfold pgo; rw [if_neg g3]
        rw [e1]
        refine b49 (a.2.1 + 1) (nI (a.2.1 + 1)) 0 τ1 (FK_trans y2 a2) ?_ _
        obtain ⟨k1, k2, k3, k4⟩ := a1
        exact ⟨k1, by rw [si_e, Int32.add_zero], by rw [si_j (by omega)]; exact k3, by rw [si_j (by omega)]; exact k4⟩
    · rw [if_neg g, if_neg g]
      exact ⟨τ, rfl, y2, y3⟩
theorem Mok_tr {len o : Nat} {x : Nat ⊕ (Vc × Pst)} {r : Option (Int32 × Sg)} {σ τ : Sg} (f : FK σ τ) (h : Mok len o x r τ) : Mok len o x r σ := by
  cases x with
  | inl p =>
    obtain ⟨ρ, y1, y2, y3⟩ := h
    exact ⟨ρ, y1, FK_trans f y2, y3⟩
  | inr a =>
    obtain ⟨ρ, y1, y2, y3⟩ := h
    exact ⟨ρ, y1, FK_trans f y2, y3⟩
theorem mtermL {c : Nat → Int32} {len q : Nat} {D : Nat → Vc} {b : Bool} {prs : Pst → Nat ⊕ (Vc × Pst)} {rs : Sg → Option (Int32 × Sg)} {o : Nat} (hR : MsOk c len q b prs rs o) (hr : PMr prs) : ∀ n m (v : Vc) (s : Pst) (σ : Sg), 72 ≤ s.1 + n → n < m → RE c len q σ → Rst len o s σ → Mok len o (pTermL c q D b prs n v s) (m_readsTerm_117_L19 rs m σ) σ := by
  intro n
  induction n with
  | zero =>
    intro m v s σ hn hm he h
    obtain ⟨m, rfl⟩ : ∃ k, m = k + 1 := ⟨m - 1, by omega⟩
    have hl := he.1
    refine ⟨σ, ?_, FK_refl _, h⟩
    show m_readsTerm_117_H19 rs (m_readsTerm_117_L19 rs m) σ = _
    unfold m_readsTerm_117_H19
    rw [msgn he h, bd_s, he.2.2.2.2.1 s.1 (by omega), if_neg (show ¬ ((-1 : Int32) = 42 ∨ (-1 : Int32) = 47) by decide), if_pos rfl]
  | succ n ih =>
    intro m v s σ hn hm he h
    obtain ⟨m, rfl⟩ : ∃ k, m = k + 1 := ⟨m - 1, by omega⟩
    have st : m_readsTerm_117_L19 rs (m + 1) σ = if c s.1 = 42 ∨ c s.1 = 47 then bd (m_readsPart_117 rs (si σ 117 17 ((σ.1 117 17) + 1))) (fun r2 σ2 => if r2 = 0 then some (0, σ2) else m_readsTerm_117_L19 rs m σ2) else some (1, σ) := by
      show m_readsTerm_117_H19 rs (m_readsTerm_117_L19 rs m) σ = _
      unfold m_readsTerm_117_H19
      rw [msgn he h, bd_s]
      by_cases g : c s.1 = 42 ∨ c s.1 = 47
      · rw [if_pos g, if_pos g, if_neg (by decide)]
      · rw [if_neg g, if_neg g, if_pos rfl]
    rw [st]
    unfold pTermL
    by_cases g : c s.1 = 42 ∨ c s.1 = 47
    · rw [if_pos g, if_pos g]
      obtain ⟨a1, a2⟩ := mgo h (rc_lt he (fun w => by
        rw [w] at g
        rcases g with g | g
        · exact absurd g (by decide)
        · exact absurd g (by decide)))
      generalize hτ1 : si σ 117 17 ((σ.1 117 17) + 1) = τ1 at a1 a2
      have w := mpart (D := D) hR (RE_fk he a2) a1
      cases hx : pPart c q D b prs (s.1 + 1, s.2) with
      | inl p =>
        rw [hx] at w
        obtain ⟨τ, y1, y2, y3⟩ := w
        exact ⟨τ, by rw [y1, bd_s, if_pos rfl], FK_trans a2 y2, y3⟩
      | inr a =>
        rw [hx] at w
        obtain ⟨τ, y1, y2, y3⟩ := w
        have hlt : s.1 + 1 < a.2.1 := (pPart_M hr hx).1
        rw [pbd_r, y1, bd_s, if_neg (show ¬ (1 : Int32) = 0 by decide)]
        exact Mok_tr (FK_trans a2 y2) (ih m _ a.2 τ (by omega) (by omega) (RE_fk (RE_fk he a2) y2) y3)
    · rw [if_neg g, if_neg g]
      exact ⟨σ, rfl, FK_refl _, h⟩
theorem mterm {c : Nat → Int32} {len q : Nat} {D : Nat → Vc} {b : Bool} {prs : Pst → Nat ⊕ (Vc × Pst)} {rs : Sg → Option (Int32 × Sg)} {o : Nat} {s : Pst} {σ : Sg} (hR : MsOk c len q b prs rs o) (hr : PMr prs) (he : RE c len q σ) (h : Rst len o s σ) : Mok len o (pTerm c q D b prs s) (m_readsTerm_117 rs σ) σ := by
  unfold m_readsTerm_117 pTerm
  generalize hτ0 : si σ 117 19 ((σ.1 117 19) + 1) = τ0
  have f0 : FK σ τ0 := by rw [← hτ0]; exact FK_si (FK_refl _) (Or.inr (Or.inr rfl))
  have h0 : Rst len o (s.1, s.2.1 + 1, s.2.2) τ0 := by
    obtain ⟨k1, k2, k3, k4⟩ := h
    rw [← hτ0]
    exact ⟨k1, by rw [si_j (by omega)]; exact k2, by rw [si_j (by omega)]; exact k3, by rw [si_e, k4, nI_1]⟩
  have w := mpart (D := D) hR (RE_fk he f0) h0
  cases hx : pPart c q D b prs (s.1, s.2.1 + 1, s.2.2) with
  | inl p =>
    rw [hx] at w
    obtain ⟨τ, y1, y2, y3⟩ := w
    exact ⟨τ, by rw [y1, bd_s, if_pos rfl], FK_trans f0 y2, y3⟩
  | inr a =>
    rw [hx] at w
    obtain ⟨τ, y1, y2, y3⟩ := w
    rw [pbd_r, y1, bd_s, if_neg (show ¬ (1 : Int32) = 0 by decide)]
    exact Mok_tr (FK_trans f0 y2) (mtermL hR hr 72 fu _ a.2 τ (by omega) (by decide) (RE_fk (RE_fk he f0) y2) y3)
theorem msumL {c : Nat → Int32} {len q : Nat} {D : Nat → Vc} {b : Bool} {prs : Pst → Nat ⊕ (Vc × Pst)} {rs : Sg → Option (Int32 × Sg)} {o : Nat} (hR : MsOk c len q b prs rs o) (hr : PMr prs) : ∀ n m (v : Vc) (s : Pst) (σ : Sg), 72 ≤ s.1 + n → n < m → RE c len q σ → Rst len o s σ → Mok len o (pSumL c q D b prs n v s) (m_readsSum_117_L9 rs m σ) σ := by
  intro n
  induction n with
  | zero =>
    intro m v s σ hn hm he h
    obtain ⟨m, rfl⟩ : ∃ k, m = k + 1 := ⟨m - 1, by omega⟩
    have hl := he.1
    refine ⟨σ, ?_, FK_refl _, h⟩
    show m_readsSum_117_H9 rs (m_readsSum_117_L9 rs m) σ = _
    unfold m_readsSum_117_H9
    rw [msgn he h, bd_s, he.2.2.2.2.1 s.1 (by omega), if_neg (show ¬ ((-1 : Int32) = 43 ∨ (-1 : Int32) = 45) by decide), if_pos rfl]
  | succ n ih =>
    intro m v s σ hn hm he h
    obtain ⟨m, rfl⟩ : ∃ k, m = k + 1 := ⟨m - 1, by omega⟩
    have st : m_readsSum_117_L9 rs (m + 1) σ = if c s.1 = 43 ∨ c s.1 = 45 then bd (m_readsTerm_117 rs (si σ 117 17 ((σ.1 117 17) + 1))) (fun r2 σ2 => if r2 = 0 then some (0, σ2) else m_readsSum_117_L9 rs m σ2) else some (1, σ) := by
      show m_readsSum_117_H9 rs (m_readsSum_117_L9 rs m) σ = _
      unfold m_readsSum_117_H9
      rw [msgn he h, bd_s]
      by_cases g : c s.1 = 43 ∨ c s.1 = 45
      · rw [if_pos g, if_pos g, if_neg (by decide)]
      · rw [if_neg g, if_neg g, if_pos rfl]
    rw [st]
    unfold pSumL
    by_cases g : c s.1 = 43 ∨ c s.1 = 45
    · rw [if_pos g, if_pos g]
      obtain ⟨a1, a2⟩ := mgo h (rc_lt he (fun w => by
        rw [w] at g
        rcases g with g | g
        · exact absurd g (by decide)
        · exact absurd g (by decide)))
      generalize hτ1 : si σ 117 17 ((σ.1 117 17) + 1) = τ1 at a1 a2
      have w := mterm (D := D) hR hr (RE_fk he a2) a1
      cases hx : pTerm c q D b prs (s.1 + 1, s.2) with
      | inl p =>
        rw [hx] at w
        obtain ⟨τ, y1, y2, y3⟩ := w
        exact ⟨τ, by rw [y1, bd_s, if_pos rfl], FK_trans a2 y2, y3⟩
      | inr a =>
        rw [hx] at w
        obtain ⟨τ, y1, y2, y3⟩ := w
        have hlt : s.1 + 1 < a.2.1 := (pTerm_M hr hx).1
        rw [pbd_r, y1, bd_s, if_neg (show ¬ (1 : Int32) = 0 by decide)]
        exact Mok_tr (FK_trans a2 y2) (ih m v _ τ (by show 72 ≤ a.2.1 + n; omega) (by omega) (RE_fk (RE_fk he a2) y2) y3)
    · rw [if_neg g, if_neg g]
      exact ⟨σ, rfl, FK_refl _, h⟩
theorem msumH {c : Nat → Int32} {len q : Nat} {D : Nat → Vc} {b : Bool} {prs : Pst → Nat ⊕ (Vc × Pst)} {rs : Sg → Option (Int32 × Sg)} {o : Nat} {s : Pst} {σ : Sg} (hR : MsOk c len q b prs rs o) (hr : PMr prs) (he : RE c len q σ) (h : Rst len o s σ) : Mok len o (pSumH c q D b prs s) (m_readsSum_117_H rs σ) σ := by
  unfold m_readsSum_117_H pSumH
  have w := mterm (D := D) hR hr he h
  cases hx : pTerm c q D b prs s with
  | inl p =>
    rw [hx] at w
    obtain ⟨τ, y1, y2, y3⟩ := w
    exact ⟨τ, by rw [y1, bd_s, if_pos rfl], y2, y3⟩
  | inr a =>
    rw [hx] at w
    obtain ⟨τ, y1, y2, y3⟩ := w
    rw [pbd_r, y1, bd_s, if_neg (show ¬ (1 : Int32) = 0 by decide)]
    exact Mok_tr y2 (msumL hR hr 72 fu _ a.2 τ (by omega) (by decide) (RE_fk he y2) y3)
theorem msum_p {c : Nat → Int32} {len q : Nat} {D : Nat → Vc} : ∀ d o m, o + d = 6 → d < m → ∀ s σ, RE c len q σ → Rst len o s σ → Mok len o (pSum c q D d s) (m_readsSum_117 m σ) σ
  | 0, o, m, ho, hm => by
    obtain ⟨m, rfl⟩ : ∃ k, m = k + 1 := ⟨m - 1, by omega⟩
    have hR : MsOk c len q false (fun _ => .inl 0) (m_readsSum_117 m) o := ⟨by omega, ⟨fun w => (by cases w), fun w => by omega⟩, fun w => by omega⟩
    exact fun s σ he h => msumH hR (fun s a h => by cases h) he h
  | d + 1, o, m, ho, hm => by
    obtain ⟨m, rfl⟩ : ∃ k, m = k + 1 := ⟨m - 1, by omega⟩
    have hR : MsOk c len q true (pSum c q D d) (m_readsSum_117 m) o := ⟨by omega, ⟨fun _ => by omega, fun _ => rfl⟩, fun _ => msum_p d (o + 1) m (by omega) (by omega)⟩
    exact fun s σ he h => msumH hR (pSum_M d) he h
theorem mboth {c : Nat → Int32} {len q : Nat} {D : Nat → Vc} {σ : Sg} (he : RE c len q σ) (hc : ∀ j, j < len → c j ≠ -1) (h : Rst len 0 (0, 0, (fun _ => false), 0) σ) : match pBoth c q D with
    | .inl p => ∃ τ, m_readsBoth_117 σ = some (0, τ) ∧ FK σ τ ∧ τ.1 117 17 = nI p
    | .inr r => 1 ≤ len ∧ 1 ≤ r.2.2.2.2.1 ∧ r.2.2.2.2.1 ≤ 72 ∧ ∃ τ, m_readsBoth_117 σ = some (1, τ) ∧ FK σ τ ∧ τ.1 117 19 = nI r.2.2.2.2.1 := by
  have hl := he.1
  unfold m_readsBoth_117 m_readsBoth_117_b16 m_readsBoth_117_b50 m_readsBoth_117_b51 pBoth
  have w1 := msum_p (D := D) 6 0 12 rfl (by omega) _ σ he h
  cases hx : pSum c q D 6 (0, 0, (fun _ => false), 0) with
  | inl p =>
    rw [hx] at w1
    obtain ⟨τ, y1, y2, y3⟩ := w1
    exact ⟨τ, by rw [y1, bd_s, if_pos rfl], y2, y3⟩
  | inr a =>
    rw [hx] at w1
    obtain ⟨τ, y1, y2, y3⟩ := w1
    obtain ⟨k1, k2, k3⟩ := pSum_M 6 _ _ hx
    have k1' : 0 < a.2.1 := k1
    have k2' : 0 < a.2.2.1 := k2
    have k3' : a.2.2.1 + 0 ≤ 0 + a.2.1 := k3
    have he1 := RE_fk he y2
    rw [pbd_r, y1, bd_s, if_neg (show ¬ (1 : Int32) = 0 by decide), mhere he1 y3, bd_s]
    by_cases g : c a.2.1 = 61
    · rw [if_pos g, if_pos g]
      obtain ⟨a1, a2⟩ := mgo y3 (rc_lt he (by rw [g]; decide))
      generalize hτ1 : si τ 117 17 ((τ.1 117 17) + 1) = τ1 at a1 a2
      have f1 := FK_trans y2 a2
      have w2 := msum_p (D := D) 6 0 12 rfl (by omega) _ τ1 (RE_fk he f1) a1
      cases hy : pSum c q D 6 (a.2.1 + 1, a.2.2) with
      | inl p =>
        rw [hy] at w2
        obtain ⟨τ2, z1, z2, z3⟩ := w2
        exact ⟨τ2, by rw [z1, bd_s, if_pos rfl]; rfl, FK_trans f1 z2, z3⟩
      | inr e =>
        rw [hy] at w2
        obtain ⟨τ2, z1, z2, z3⟩ := w2
        have f2 := FK_trans f1 z2
        have he2 := RE_fk he f2
        obtain ⟨i1, i2, i3⟩ := pSum_M 6 _ _ hy
        have i1' : a.2.1 + 1 < e.2.1 := i1
        have i2' : a.2.2.1 < e.2.2.1 := i2
        have i3' : e.2.2.1 + (a.2.1 + 1) ≤ a.2.2.1 + e.2.1 := i3
        obtain ⟨q1, q2, q3, q4⟩ := z3
        rw [pbd_r, z1, bd_s, if_neg (show ¬ (1 : Int32) = 0 by decide), q2, he2.2.2.1]
        by_cases g2 : c e.2.1 = -1
        · have el : e.2.1 = len := by
            rcases Nat.lt_or_ge e.2.1 len with w | w
            · exact absurd g2 (hc _ w)
            · omega
          rw [if_pos g2, if_pos (by rw [el])]
          exact ⟨by omega, by show 1 ≤ e.2.2.1; omega, by show e.2.2.1 ≤ 72; omega, τ2, rfl, f2, q4⟩
        · have el : e.2.1 < len := rc_lt he g2
          rw [if_neg g2, if_neg (show ¬ nI e.2.1 = nI len from fun w => by have := (nI_eq (by omega) (by omega)).mp w; omega)]
          exact ⟨τ2, rfl, f2, q2⟩
    · rw [if_neg g, if_neg g]
      exact ⟨τ, rfl, y2, y3.2.1⟩
