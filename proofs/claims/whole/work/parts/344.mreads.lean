/-! ===== PURE: the reference reads a FORMULA's letters ===== -/
def FK (σ σ' : Sg) : Prop := (∀ c, c ≠ 117 → σ'.1 c = σ.1 c) ∧ σ'.2 = σ.2 ∧ ∀ j, j ≠ 17 → j ≠ 18 → j ≠ 19 → σ'.1 117 j = σ.1 117 j
theorem FK_refl (σ : Sg) : FK σ σ := ⟨fun _ _ => rfl, rfl, fun _ _ _ _ => rfl⟩
theorem FK_trans {a b c : Sg} (h : FK a b) (g : FK b c) : FK a c := ⟨fun x hx => (g.1 x hx).trans (h.1 x hx), g.2.1.trans h.2.1, fun j h1 h2 h3 => (g.2.2 j h1 h2 h3).trans (h.2.2 j h1 h2 h3)⟩
theorem FK_si {σ σ' : Sg} (h : FK σ σ') {j : Nat} {x : Int32} (hj : j = 17 ∨ j = 18 ∨ j = 19) : FK σ (si σ' 117 j x) := ⟨fun c hc => by rw [si_c hc]; exact h.1 c hc, h.2.1, fun i h1 h2 h3 => by rw [si_j (by omega)]; exact h.2.2 i h1 h2 h3⟩
def RE (c : Nat → Int32) (len q : Nat) (σ : Sg) : Prop := len ≤ 72 ∧ q ≤ 8 ∧ σ.1 117 5 = nI len ∧ (∀ j, j < len → σ.1 121 j = c j) ∧ (∀ j, len ≤ j → c j = -1) ∧ (∀ j, c j = -1 ∨ ∃ x, x < 256 ∧ c j = nI x) ∧ σ.1 118 0 = nI q
/-- place, terms, open -/
def Rst (len o : Nat) (s : Pst) (σ : Sg) : Prop := s.1 ≤ len ∧ σ.1 117 17 = nI s.1 ∧ σ.1 117 18 = nI o ∧ σ.1 117 19 = nI s.2.1
theorem RE_fk {c : Nat → Int32} {len q : Nat} {σ τ : Sg} (h : RE c len q σ) (f : FK σ τ) : RE c len q τ := by
  obtain ⟨h1, h2, h3, h4, h5, h6, h7⟩ := h
  exact ⟨h1, h2, by rw [f.2.2 5 (by omega) (by omega) (by omega)]; exact h3, fun j hj => by rw [f.1 121 (by omega)]; exact h4 j hj, h5, h6, by rw [f.1 118 (by omega)]; exact h7⟩
theorem mhere {c : Nat → Int32} {len q o : Nat} {s : Pst} {σ : Sg} (he : RE c len q σ) (h : Rst len o s σ) : m_here_117 σ = some (c s.1, σ) := by
  obtain ⟨h1, h2, h3, h4, h5, _⟩ := he
  obtain ⟨g1, g2, _⟩ := h
  unfold m_here_117 m_here_117_b24
  rw [h3, g2]
  by_cases e : s.1 < len
  · rw [if_neg (nI_ge e (by omega)), inB_t (by omega) (by omega), gd_t, cl_n (by omega), h4 _ e]
  · rw [if_pos (nI_le (by omega) (by omega)), h5 _ (by omega)]
theorem rc_lt {c : Nat → Int32} {len q : Nat} {σ : Sg} (he : RE c len q σ) {p : Nat} (h : c p ≠ -1) : p < len := by
  rcases Nat.lt_or_ge p len with g | g
  · exact g
  · exact absurd (he.2.2.2.2.1 p g) h
theorem mgo {len o : Nat} {s : Pst} {σ : Sg} (h : Rst len o s σ) (hp : s.1 < len) : Rst len o (s.1 + 1, s.2) (si σ 117 17 ((σ.1 117 17) + 1)) ∧ FK σ (si σ 117 17 ((σ.1 117 17) + 1)) := by
  obtain ⟨g1, g2, g3, g4⟩ := h
  exact ⟨⟨by show s.1 + 1 ≤ len; omega, by rw [si_e, g2, nI_1], by rw [si_j (by omega)]; exact g3, by rw [si_j (by omega)]; exact g4⟩, FK_si (FK_refl _) (Or.inl rfl)⟩
theorem isInD (x : Int32) (σ : Sg) : m_isIn_s x.toInt64 48 57 σ = some (if isD x = true then 1 else 0, σ) := by
  have e : isD x = true ↔ ((48 : Nat) : Int) ≤ x.toInt ∧ x.toInt ≤ ((57 : Nat) : Int) := by
    unfold isD
    simp only [Bool.and_eq_true, decide_eq_true_eq]
    omega
  by_cases g : isD x = true
  · rw [if_pos g]; exact isIn_in (a := 48) (b := 57) (by omega) (by omega) (e.mp g)
  · rw [if_neg g]; exact isIn_out (a := 48) (b := 57) (by omega) (by omega) (fun w => g (e.mpr w))
theorem mdig {c : Nat → Int32} {len q o : Nat} {s : Pst} {σ : Sg} (he : RE c len q σ) (h : Rst len o s σ) : m_isDigit_117 σ = some (if isD (c s.1) = true then 1 else 0, σ) := by
  unfold m_isDigit_117
  rw [mhere he h, bd_s, isInD, bd_s]
  split <;> rfl
theorem msgn {c : Nat → Int32} {len q o : Nat} {s : Pst} {σ : Sg} (he : RE c len q σ) (h : Rst len o s σ) (x y : Int32) : m_isSigned_117 x y σ = some (if c s.1 = x ∨ c s.1 = y then 1 else 0, σ) := by
  unfold m_isSigned_117 m_isSigned_117_b16 m_isSigned_117_b21
  rw [mhere he h, bd_s]
  by_cases e : c s.1 = x
  · rw [if_pos e, if_pos (Or.inl e)]; rfl
  · rw [if_neg e, mhere he h, bd_s]
    by_cases e2 : c s.1 = y
    · rw [if_pos e2, if_pos (Or.inr e2)]; rfl
    · rw [if_neg e2, if_neg (fun w => w.elim e e2)]; rfl
/-- read, or a FAULT -/
def Mok (len o : Nat) (x : Nat ⊕ (Vc × Pst)) (r : Option (Int32 × Sg)) (σ : Sg) : Prop := match x with
  | .inl p => ∃ τ, r = some (0, τ) ∧ FK σ τ ∧ τ.1 117 17 = nI p
  | .inr a => ∃ τ, r = some (1, τ) ∧ FK σ τ ∧ Rst len o a.2 τ
def MsOk (c : Nat → Int32) (len q : Nat) (b : Bool) (prs : Pst → Nat ⊕ (Vc × Pst)) (rs : Sg → Option (Int32 × Sg)) (o : Nat) : Prop := o ≤ 6 ∧ (b = true ↔ o < 6) ∧ (o < 6 → ∀ s σ, RE c len q σ → Rst len (o + 1) s σ → Mok len (o + 1) (prs s) (rs σ) σ)
theorem mnum {c : Nat → Int32} {len q o : Nat} {s : Pst} {rs : Sg → Option (Int32 × Sg)} {σ : Sg} (he : RE c len q σ) (h : Rst len o s σ) : ∃ τ, m_readsAtom_117_L47 rs fu 0 σ = some (1, τ) ∧ FK σ τ ∧ Rst len o (pNum c 3 s.1, s.2) τ := by
  have key : ∀ n m (p : Nat) (τ : Sg), n ≤ 3 → n < m → FK σ τ → Rst len o (p, s.2) τ → ∃ τ', m_readsAtom_117_L47 rs m (nI (3 - n)) τ = some (1, τ') ∧ FK σ τ' ∧ Rst len o (pNum c n p, s.2) τ' := by
    intro n
    induction n with
    | zero =>
      intro m p τ _ hm f hs
      obtain ⟨m, rfl⟩ : ∃ k, m = k + 1 := ⟨m - 1, by omega⟩
      refine ⟨τ, ?_, f, hs⟩
      show m_readsAtom_117_H47 rs (m_readsAtom_117_L47 rs m) (nI 3) τ = _
      unfold m_readsAtom_117_H47 m_readsAtom_117_b75
      rw [if_pos (show (3 : Int32) ≤ nI 3 by decide)]
    | succ n ih =>
      intro m p τ hn hm f hs
      obtain ⟨m, rfl⟩ : ∃ k, m = k + 1 := ⟨m - 1, by omega⟩
      have heτ := RE_fk he f
      have st : m_readsAtom_117_L47 rs (m + 1) (nI (3 - (n + 1))) τ = if isD (c p) = true then m_readsAtom_117_L47 rs m (nI (3 - n)) (si τ 117 17 ((τ.1 117 17) + 1)) else some (1, τ) := by
        show m_readsAtom_117_H47 rs (m_readsAtom_117_L47 rs m) _ τ = _
        unfold m_readsAtom_117_H47 m_readsAtom_117_b75
        rw [if_neg (show ¬ (3 : Int32) ≤ nI (3 - (n + 1)) from nI_ge (b := 3) (by omega) (by decide)), mdig heτ hs, bd_s, nI_1, show 3 - (n + 1) + 1 = 3 - n by omega]
        by_cases g : isD (c p) = true
        · rw [if_pos g, if_pos g, if_neg (by decide)]
        · rw [if_neg g, if_neg g, if_pos rfl]
      rw [st]
      unfold pNum
      by_cases g : isD (c p) = true
      · rw [if_pos g, if_pos g]
        obtain ⟨a1, a2⟩ := mgo hs (rc_lt he (fun w => by
          have w' : c p = -1 := w
          rw [w'] at g; exact isD_n1 g))
        exact ih m (p + 1) _ (by omega) (by omega) (FK_trans f a2) a1
      · rw [if_neg g, if_neg g]
        exact ⟨τ, rfl, f, hs⟩
  exact key 3 fu s.1 σ (by omega) (by decide) (FK_refl _) h
theorem isInQ {x : Int32} {q : Nat} (hq : q ≤ 8) (σ : Sg) : m_isIn_s x.toInt64 65 ((((65 : Int32) + nI q) - 1).toInt64) σ = some (if isQ q x = true then 1 else 0, σ) := by
  have hu : ((65 : Int32) + nI q) - 1 = nI (64 + q) := by
    rw [show (65 : Int32) = nI 65 from rfl, nI_add, show (1 : Int32) = nI 1 from rfl, nI_sub (by omega), show 65 + q - 1 = 64 + q by omega]
  have e : isQ q x = true ↔ ((65 : Nat) : Int) ≤ x.toInt ∧ x.toInt ≤ ((64 + q : Nat) : Int) := by
    unfold isQ
    simp only [Bool.and_eq_true, decide_eq_true_eq]
    omega
  rw [hu]
  by_cases g : isQ q x = true
  · rw [if_pos g]; exact isIn_in (a := 65) (b := 64 + q) (by omega) (by omega) (e.mp g)
  · rw [if_neg g]; exact isIn_out (a := 65) (b := 64 + q) (by omega) (by omega) (fun w => g (e.mpr w))
/-- a closed sum, from a ( on -/
theorem mclosed {c : Nat → Int32} {len q : Nat} {b : Bool} {prs : Pst → Nat ⊕ (Vc × Pst)} {rs : Sg → Option (Int32 × Sg)} {o : Nat} {s : Pst} {σ : Sg} (hR : MsOk c len q b prs rs o) (he : RE c len q σ) (h : Rst len o s σ) (ho : o < 6) (g : c s.1 = 40) (F : Vc × Pst → Vc × Pst) (hF : ∀ a, (F a).2.1 = a.2.1 + 1 ∧ (F a).2.2.1 = a.2.2.1) : Mok len o (pbd (prs (s.1 + 1, s.2)) fun a => if c a.2.1 = 41 then .inr (F a) else .inl a.2.1) (m_readsClosed_117 rs σ) σ := by
  obtain ⟨ho6, hb, hrs⟩ := hR
  obtain ⟨g1, g2, g3, g4⟩ := h
  have hp := rc_lt he (p := s.1) (by rw [g]; decide)
  generalize hτ0 : si (si σ 117 18 ((σ.1 117 18) + 1)) 117 17 (((si σ 117 18 ((σ.1 117 18) + 1)).1 117 17) + 1) = τ0
  have f0 : FK σ τ0 := by rw [← hτ0]; exact FK_si (FK_si (FK_refl _) (Or.inr (Or.inl rfl))) (Or.inl rfl)
  have h0 : Rst len (o + 1) (s.1 + 1, s.2) τ0 := by
    rw [← hτ0]
    exact ⟨by show s.1 + 1 ≤ len; omega, by rw [si_e, si_j (by omega), g2, nI_1], by rw [si_j (by omega), si_e, g3, nI_1], by rw [si_j (by omega), si_j (by omega)]; exact g4⟩
  have w := hrs ho _ τ0 (RE_fk he f0) h0
  have st : m_readsClosed_117 rs σ = bd (rs τ0) fun r2 σ2 => if r2 = 0 then some (0, σ2) else bd (m_here_117 σ2) fun r3 σ3 => if r3 = 41 then some (1, si (si σ3 117 18 ((σ3.1 117 18) - 1)) 117 17 (((si σ3 117 18 ((σ3.1 117 18) - 1)).1 117 17) + 1)) else some (0, σ3) := by
    unfold m_readsClosed_117 m_readsClosed_117_b18 m_readsClosed_117_b56
    rw [mhere he ⟨g1, g2, g3, g4⟩, bd_s, if_pos g, if_neg (show ¬ σ.1 117 18 = 6 from fun w => by
      rw [g3] at w
      have := (nI_eq (b := 6) (by omega) (by omega)).mp w
      omega), hτ0]
  rw [st]
  cases hx : prs (s.1 + 1, s.2) with
  | inl p =>
    rw [hx] at w
    obtain ⟨τ, y1, y2, y3⟩ := w
    exact ⟨τ, by rw [y1, bd_s, if_pos rfl], FK_trans f0 y2, y3⟩
  | inr a =>
    rw [hx] at w
    obtain ⟨τ, y1, y2, y3⟩ := w
    have f2 := FK_trans f0 y2
    have he2 := RE_fk he f2
    rw [pbd_r, y1, bd_s, if_neg (show ¬ (1 : Int32) = 0 by decide), mhere he2 y3, bd_s]
    by_cases g5 : c a.2.1 = 41
    · rw [if_pos g5, if_pos g5]
      obtain ⟨k1, k2, k3, k4⟩ := y3
      have hp2 := rc_lt he (p := a.2.1) (by rw [g5]; decide)
      refine ⟨_, rfl, FK_trans f2 (FK_si (FK_si (FK_refl _) (Or.inr (Or.inl rfl))) (Or.inl rfl)), ?_, ?_, ?_, ?_⟩
      · rw [(hF a).1]; omega
      · rw [si_e, si_j (by omega), k2, nI_1, (hF a).1]
      · rw [si_j (by omega), si_e, k3, show (1 : Int32) = nI 1 from rfl, nI_sub (by omega), show o + 1 - 1 = o by omega]
      · rw [si_j (by omega), si_j (by omega), k4, (hF a).2]
    · rw [if_neg g5, if_neg g5]
      exact ⟨τ, rfl, f2, y3.2.1⟩
theorem matom {c : Nat → Int32} {len q : Nat} {D : Nat → Vc} {b : Bool} {prs : Pst → Nat ⊕ (Vc × Pst)} {rs : Sg → Option (Int32 × Sg)} {o : Nat} {s : Pst} {σ : Sg} (hR : MsOk c len q b prs rs o) (he : RE c len q σ) (h : Rst len o s σ) : Mok len o (pAtom c q D b prs s) (m_readsAtom_117 rs σ) σ := by
  have hR' := hR
  obtain ⟨ho6, hb, hrs⟩ := hR
  have hq := he.2.1
  have h8 : σ.1 118 0 = nI q := he.2.2.2.2.2.2
  have g18 : σ.1 117 18 = nI o := h.2.2.1
  have b107 : ∀ x τ, Mok len o x (m_readsClosed_117 rs τ) σ → Mok len o x (m_readsAtom_117_b107 rs τ) σ := by
    intro x τ w
    unfold m_readsAtom_117_b107
    cases x with
    | inl p =>
      obtain ⟨τ', y1, y2⟩ := w
      exact ⟨τ', by rw [y1, bd_s]; rfl, y2⟩
    | inr a =>
      obtain ⟨τ', y1, y2⟩ := w
      exact ⟨τ', by rw [y1, bd_s]; rfl, y2⟩
  unfold m_readsAtom_117 pAtom
  rw [mhere he h, bd_s, h8, isInQ hq, bd_s]
  by_cases g : isQ q (c s.1) = true
  · rw [if_pos g, if_pos g, if_neg (by decide)]
    obtain ⟨a1, a2⟩ := mgo h (rc_lt he (fun w => by rw [w] at g; revert g; unfold isQ; simp only [Bool.and_eq_true, decide_eq_true_eq, show (-1 : Int32).toInt = -1 by decide]; omega))
    exact ⟨_, rfl, a2, a1⟩
  · rw [if_neg g, if_neg g, if_pos rfl, mdig he h, bd_s]
    by_cases g2 : isD (c s.1) = true
    · rw [if_pos g2, if_pos g2, if_neg (by decide)]
      obtain ⟨τ, x1, x2, x3⟩ := mnum (rs := rs) he h
      exact ⟨τ, x1, x2, x3⟩
    · rw [if_neg g2, if_neg g2, if_pos rfl, mhere he h, bd_s]
      by_cases g3 : c s.1 = 40
      · rw [if_neg (show ¬ c s.1 = 115 by rw [g3]; decide)]
        by_cases ho : o < 6
        · rw [if_pos (show c s.1 = 40 ∧ b = true from ⟨g3, hb.mpr ho⟩)]
          exact b107 _ _ (mclosed hR' he h ho g3 (fun a => (a.1, (a.2.1 + 1, a.2.2))) (fun a => ⟨rfl, rfl⟩))
        · rw [if_neg (show ¬ (c s.1 = 40 ∧ b = true) from fun w => ho (hb.mp w.2)), if_neg (show ¬ (c s.1 = 115 ∧ b = true) from fun w => ho (hb.mp w.2))]
          apply b107
          refine ⟨σ, ?_, FK_refl _, h.2.1⟩
          unfold m_readsClosed_117 m_readsClosed_117_b18
          rw [mhere he h, bd_s, if_pos g3, if_pos (show σ.1 117 18 = 6 by rw [g18, show o = 6 by omega]; rfl)]
      · rw [if_neg (show ¬ (c s.1 = 40 ∧ b = true) from fun w => g3 w.1)]
        by_cases g4 : c s.1 = 115
        · rw [if_pos g4]
          by_cases ho : o < 6
          · rw [if_pos (show c s.1 = 115 ∧ b = true from ⟨g4, hb.mpr ho⟩), if_neg (show ¬ σ.1 117 18 = 6 from fun w => by
              rw [g18] at w
              have := (nI_eq (b := 6) (by omega) (by omega)).mp w
              omega)]
            obtain ⟨a1, a2⟩ := mgo h (rc_lt he (by rw [g4]; decide))
            generalize hτ1 : si σ 117 17 ((σ.1 117 17) + 1) = τ1 at a1 a2
            have he1 := RE_fk he a2
            apply b107
            by_cases g5 : c (s.1 + 1) = 40
            · rw [if_pos g5]
              have w := mclosed hR' he1 a1 ho g5 (fun a => ((fun _ => 0 : Vc), (a.2.1 + 1, a.2.2.1, (if zv a.1 = true then a.2.2.2.1 else mrk s.1 a.2.2.2.1), a.2.2.2.2))) (fun a => ⟨rfl, rfl⟩)
              revert w
              generalize (pbd (prs ((s.1 + 1, s.2).1 + 1, (s.1 + 1, s.2).2)) fun a => if c a.2.1 = 41 then .inr ((fun _ => 0 : Vc), (a.2.1 + 1, a.2.2.1, (if zv a.1 = true then a.2.2.2.1 else mrk s.1 a.2.2.2.1), a.2.2.2.2)) else .inl a.2.1 : Nat ⊕ (Vc × Pst)) = X
              intro w
              cases X with
              | inl p =>
                obtain ⟨τ', y1, y2, y3⟩ := w
                exact ⟨τ', y1, FK_trans a2 y2, y3⟩
              | inr a =>
                obtain ⟨τ', y1, y2, y3⟩ := w
                exact ⟨τ', y1, FK_trans a2 y2, y3⟩
            · rw [if_neg g5]
              refine ⟨τ1, ?_, a2, a1.2.1⟩
              unfold m_readsClosed_117 m_readsClosed_117_b18
              rw [mhere he1 a1, bd_s, if_neg (show ¬ c (s.1 + 1, s.2).1 = 40 from g5)]
          · rw [if_neg (show ¬ (c s.1 = 115 ∧ b = true) from fun w => ho (hb.mp w.2)), if_pos (show σ.1 117 18 = 6 by rw [g18, show o = 6 by omega]; rfl)]
            exact ⟨σ, rfl, FK_refl _, h.2.1⟩
        · rw [if_neg g4, if_neg (show ¬ (c s.1 = 115 ∧ b = true) from fun w => g4 w.1)]
          apply b107
          refine ⟨σ, ?_, FK_refl _, h.2.1⟩
          unfold m_readsClosed_117 m_readsClosed_117_b18
          rw [mhere he h, bd_s, if_neg g3]
