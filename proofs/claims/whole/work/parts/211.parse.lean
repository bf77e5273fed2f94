/-! ===== PURE: the letters of a FORMULA, read on paper ===== -/
/-- place, terms, wrong places, quantities -/
abbrev Pst : Type := Nat × Nat × (Nat → Bool) × Int32
abbrev Vc : Type := Nat → Int32
def pbd {α β : Type} (x : Nat ⊕ α) (f : α → Nat ⊕ β) : Nat ⊕ β := match x with
  | .inl p => .inl p
  | .inr a => f a
theorem pbd_l {α β : Type} (p : Nat) (f : α → Nat ⊕ β) : pbd (.inl p) f = .inl p := rfl
theorem pbd_r {α β : Type} (a : α) (f : α → Nat ⊕ β) : pbd (.inr a) f = f a := rfl
def isD (x : Int32) : Bool := decide (48 ≤ x.toInt) && decide (x.toInt ≤ 57)
def isQ (q : Nat) (x : Int32) : Bool := decide (65 ≤ x.toInt) && decide (x.toInt < 65 + (q : Int))
def qx (x : Int32) : Nat := (x.toInt - 65).toNat
def zv (v : Vc) : Bool := decide (v 0 = 0) && decide (v 1 = 0) && decide (v 2 = 0) && decide (v 3 = 0) && decide (v 4 = 0)
def eqv (v w : Vc) : Bool := decide (v 0 = w 0) && decide (v 1 = w 1) && decide (v 2 = w 2) && decide (v 3 = w 3) && decide (v 4 = w 4)
def mrk (a : Nat) (w : Nat → Bool) : Nat → Bool := fun j => if j = a then true else w j
def pNum (c : Nat → Int32) : Nat → Nat → Nat
  | 0, p => p
  | n + 1, p => if isD (c p) = true then pNum c n (p + 1) else p
def pAtom (c : Nat → Int32) (q : Nat) (D : Nat → Vc) (b : Bool) (rs : Pst → Nat ⊕ (Vc × Pst)) (s : Pst) : Nat ⊕ (Vc × Pst) :=
  if isQ q (c s.1) = true then .inr (D (qx (c s.1)), (s.1 + 1, s.2.1, s.2.2.1, s.2.2.2 ||| ((1 : Int32) <<< ((c s.1 - 65) &&& 31))))
  else if isD (c s.1) = true then .inr (fun _ => 0, (pNum c 3 s.1, s.2))
  else if c s.1 = 40 ∧ b = true then pbd (rs (s.1 + 1, s.2)) fun a => if c a.2.1 = 41 then .inr (a.1, (a.2.1 + 1, a.2.2)) else .inl a.2.1
  else if c s.1 = 115 ∧ b = true then (if c (s.1 + 1) = 40 then pbd (rs (s.1 + 1 + 1, s.2)) fun a => if c a.2.1 = 41 then .inr (fun _ => 0, (a.2.1 + 1, a.2.2.1, (if zv a.1 = true then a.2.2.2.1 else mrk s.1 a.2.2.2.1), a.2.2.2.2)) else .inl a.2.1 else .inl (s.1 + 1))
  else .inl s.1
/-- the place of a power's digit, and its sign -/
def pgo (c : Nat → Int32) (p : Nat) : Nat := if c (p + 1) = 45 then p + 1 + 1 else p + 1
def psg (c : Nat → Int32) (p : Nat) : Int32 := if c (p + 1) = 45 then -1 else 1
def pPart (c : Nat → Int32) (q : Nat) (D : Nat → Vc) (b : Bool) (rs : Pst → Nat ⊕ (Vc × Pst)) (s : Pst) : Nat ⊕ (Vc × Pst) :=
  pbd (pAtom c q D b rs s) fun a => if c a.2.1 = 94 then (if isD (c (pgo c a.2.1)) = true then .inr (fun u => a.1 u * (psg c a.2.1 * (c (pgo c a.2.1) - 48)), (pgo c a.2.1 + 1, a.2.2)) else .inl (pgo c a.2.1)) else .inr a
def pTermL (c : Nat → Int32) (q : Nat) (D : Nat → Vc) (b : Bool) (rs : Pst → Nat ⊕ (Vc × Pst)) : Nat → Vc → Pst → Nat ⊕ (Vc × Pst)
  | 0, v, s => .inr (v, s)
  | n + 1, v, s => if c s.1 = 42 ∨ c s.1 = 47 then pbd (pPart c q D b rs (s.1 + 1, s.2)) fun a => pTermL c q D b rs n (fun u => v u + (if c s.1 = 42 then 1 else -1) * a.1 u) a.2 else .inr (v, s)
def pTerm (c : Nat → Int32) (q : Nat) (D : Nat → Vc) (b : Bool) (rs : Pst → Nat ⊕ (Vc × Pst)) (s : Pst) : Nat ⊕ (Vc × Pst) :=
  pbd (pPart c q D b rs (s.1, s.2.1 + 1, s.2.2)) fun a => pTermL c q D b rs 72 a.1 a.2
def pSumL (c : Nat → Int32) (q : Nat) (D : Nat → Vc) (b : Bool) (rs : Pst → Nat ⊕ (Vc × Pst)) : Nat → Vc → Pst → Nat ⊕ (Vc × Pst)
  | 0, v, s => .inr (v, s)
  | n + 1, v, s => if c s.1 = 43 ∨ c s.1 = 45 then pbd (pTerm c q D b rs (s.1 + 1, s.2)) fun a => pSumL c q D b rs n v (a.2.1, a.2.2.1, (if eqv a.1 v = true then a.2.2.2.1 else mrk (s.1 + 1) a.2.2.2.1), a.2.2.2.2) else .inr (v, s)
def pSumH (c : Nat → Int32) (q : Nat) (D : Nat → Vc) (b : Bool) (rs : Pst → Nat ⊕ (Vc × Pst)) (s : Pst) : Nat ⊕ (Vc × Pst) :=
  pbd (pTerm c q D b rs s) fun a => pSumL c q D b rs 72 a.1 a.2
def pSum (c : Nat → Int32) (q : Nat) (D : Nat → Vc) : Nat → Pst → Nat ⊕ (Vc × Pst)
  | 0, s => pSumH c q D false (fun _ => .inl 0) s
  | d + 1, s => pSumH c q D true (pSum c q D d) s
def pBoth (c : Nat → Int32) (q : Nat) (D : Nat → Vc) : Nat ⊕ (Vc × Vc × Nat × Pst) :=
  pbd (pSum c q D 6 (0, 0, (fun _ => false), 0)) fun a => if c a.2.1 = 61 then pbd (pSum c q D 6 (a.2.1 + 1, a.2.2)) fun e => if c e.2.1 = -1 then .inr (a.1, e.1, a.2.1, e.2) else .inl e.2.1 else .inl a.2.1
def cA (len : Nat) (f : Nat → Int32) : Nat → Int32 := fun j => if j < len then f j else -1
/-- a FORMULA that was read without a FAULT -/
def Fok (q len : Nat) (f : Nat → Int32) : Prop := (∀ j, j < len → ∃ x, x < 256 ∧ f j = nI x) ∧ ∃ r, pBoth (cA len f) q (fun _ _ => 0) = .inr r
/-! whether there is a FAULT does not hang on DIMENSIONS -/
def PL (x y : Nat ⊕ (Vc × Pst)) : Prop := ∀ a, x = .inr a → ∃ a', y = .inr a' ∧ a'.2.1 = a.2.1
theorem PL_l (p : Nat) (y : Nat ⊕ (Vc × Pst)) : PL (.inl p) y := fun a h => by cases h
theorem PL_r {a a' : Vc × Pst} (h : a'.2.1 = a.2.1) : PL (.inr a) (.inr a') := fun b e => by
  cases e; exact ⟨a', rfl, h⟩
theorem PL_bd {x y : Nat ⊕ (Vc × Pst)} {f g : Vc × Pst → Nat ⊕ (Vc × Pst)} (h : PL x y) (hf : ∀ a a', a'.2.1 = a.2.1 → PL (f a) (g a')) : PL (pbd x f) (pbd y g) := by
  cases x with
  | inl p => exact PL_l p _
  | inr a =>
    obtain ⟨a', e, h2⟩ := h a rfl
    rw [e]; exact hf a a' h2
theorem isQ_le {q q' : Nat} {x : Int32} (h : q ≤ q') (g : isQ q x = true) : isQ q' x = true := by
  unfold isQ at *
  simp only [Bool.and_eq_true, decide_eq_true_eq] at *
  omega
theorem isD_nQ {q : Nat} {x : Int32} (g : isD x = true) : ¬ isQ q x = true := by
  unfold isD at g; unfold isQ
  simp only [Bool.and_eq_true, decide_eq_true_eq] at *
  omega
theorem nQ_40 {q : Nat} {x : Int32} (g : x = 40) : ¬ isQ q x = true := by
  subst g; unfold isQ
  simp only [Bool.and_eq_true, decide_eq_true_eq, show (40 : Int32).toInt = 40 by decide]
  omega
theorem nQ_115 {q : Nat} (hq : q ≤ 8) {x : Int32} (g : x = 115) : ¬ isQ q x = true := by
  subst g; unfold isQ
  simp only [Bool.and_eq_true, decide_eq_true_eq, show (115 : Int32).toInt = 115 by decide]
  omega
theorem pAtom_PL {c : Nat → Int32} {q q' : Nat} {D D' : Nat → Vc} {b : Bool} {rs rs' : Pst → Nat ⊕ (Vc × Pst)} (hq : q ≤ q') (hq' : q' ≤ 8) (hr : ∀ s s', s'.1 = s.1 → PL (rs s) (rs' s')) {s s' : Pst} (hs : s'.1 = s.1) : PL (pAtom c q D b rs s) (pAtom c q' D' b rs' s') := by
  unfold pAtom
  rw [hs]
  by_cases g1 : isQ q (c s.1) = true
  · rw [if_pos g1, if_pos (isQ_le hq g1)]; exact PL_r (by rfl)
  · rw [if_neg g1]
    by_cases g2 : isD (c s.1) = true
    · rw [if_pos g2, if_neg (isD_nQ g2), if_pos g2]; exact PL_r (by rfl)
    · rw [if_neg g2]
      by_cases g3 : c s.1 = 40 ∧ b = true
      · rw [if_pos g3, if_neg (nQ_40 g3.1), if_neg g2, if_pos g3]
        refine PL_bd (hr _ _ rfl) (fun a a' h => ?_)
        rw [h]
        split
        · exact PL_r (by rfl)
        · exact PL_l _ _
      · rw [if_neg g3]
        by_cases g4 : c s.1 = 115 ∧ b = true
        · rw [if_pos g4, if_neg (nQ_115 hq' g4.1), if_neg g2, if_neg g3, if_pos g4]
          split
          · refine PL_bd (hr _ _ rfl) (fun a a' h => ?_)
            rw [h]
            by_cases g5 : c a.2.1 = 41
            · rw [if_pos g5, if_pos g5]; exact PL_r (by rfl)
            · rw [if_neg g5]; exact PL_l _ _
          · exact PL_l _ _
        · rw [if_neg g4]; exact PL_l _ _
theorem pPart_PL {c : Nat → Int32} {q q' : Nat} {D D' : Nat → Vc} {b : Bool} {rs rs' : Pst → Nat ⊕ (Vc × Pst)} (hq : q ≤ q') (hq' : q' ≤ 8) (hr : ∀ s s', s'.1 = s.1 → PL (rs s) (rs' s')) {s s' : Pst} (hs : s'.1 = s.1) : PL (pPart c q D b rs s) (pPart c q' D' b rs' s') := by
  unfold pPart
  refine PL_bd (pAtom_PL hq hq' hr hs) (fun a a' h => ?_)
  rw [h]
  by_cases g : c a.2.1 = 94
  · rw [if_pos g, if_pos g]
    by_cases g2 : isD (c (pgo c a.2.1)) = true
    · rw [if_pos g2, if_pos g2]; exact PL_r (by rfl)
    · rw [if_neg g2]; exact PL_l _ _
  · rw [if_neg g, if_neg g]; exact PL_r h
theorem pTermL_PL {c : Nat → Int32} {q q' : Nat} {D D' : Nat → Vc} {b : Bool} {rs rs' : Pst → Nat ⊕ (Vc × Pst)} (hq : q ≤ q') (hq' : q' ≤ 8) (hr : ∀ s s', s'.1 = s.1 → PL (rs s) (rs' s')) : ∀ n v v' (s s' : Pst), s'.1 = s.1 → PL (pTermL c q D b rs n v s) (pTermL c q' D' b rs' n v' s')
  | 0, v, v', s, s', hs => PL_r hs
  | n + 1, v, v', s, s', hs => by
    unfold pTermL
    rw [hs]
    by_cases g : c s.1 = 42 ∨ c s.1 = 47
    · rw [if_pos g, if_pos g]
      exact PL_bd (pPart_PL hq hq' hr rfl) (fun a a' h => pTermL_PL hq hq' hr n _ _ a.2 a'.2 h)
    · rw [if_neg g, if_neg g]; exact PL_r hs
theorem pTerm_PL {c : Nat → Int32} {q q' : Nat} {D D' : Nat → Vc} {b : Bool} {rs rs' : Pst → Nat ⊕ (Vc × Pst)} (hq : q ≤ q') (hq' : q' ≤ 8) (hr : ∀ s s', s'.1 = s.1 → PL (rs s) (rs' s')) {s s' : Pst} (hs : s'.1 = s.1) : PL (pTerm c q D b rs s) (pTerm c q' D' b rs' s') := by
  unfold pTerm
  exact PL_bd (pPart_PL hq hq' hr hs) (fun a a' h => pTermL_PL hq hq' hr 72 _ _ a.2 a'.2 h)
theorem pSumL_PL {c : Nat → Int32} {q q' : Nat} {D D' : Nat → Vc} {b : Bool} {rs rs' : Pst → Nat ⊕ (Vc × Pst)} (hq : q ≤ q') (hq' : q' ≤ 8) (hr : ∀ s s', s'.1 = s.1 → PL (rs s) (rs' s')) : ∀ n v v' (s s' : Pst), s'.1 = s.1 → PL (pSumL c q D b rs n v s) (pSumL c q' D' b rs' n v' s')
  | 0, v, v', s, s', hs => PL_r hs
  | n + 1, v, v', s, s', hs => by
    unfold pSumL
    rw [hs]
    by_cases g : c s.1 = 43 ∨ c s.1 = 45
    · rw [if_pos g, if_pos g]
      exact PL_bd (pTerm_PL hq hq' hr rfl) (fun a a' h => pSumL_PL hq hq' hr n _ _ _ _ h)
    · rw [if_neg g, if_neg g]; exact PL_r hs
theorem pSumH_PL {c : Nat → Int32} {q q' : Nat} {D D' : Nat → Vc} {b : Bool} {rs rs' : Pst → Nat ⊕ (Vc × Pst)} (hq : q ≤ q') (hq' : q' ≤ 8) (hr : ∀ s s', s'.1 = s.1 → PL (rs s) (rs' s')) {s s' : Pst} (hs : s'.1 = s.1) : PL (pSumH c q D b rs s) (pSumH c q' D' b rs' s') := by
  unfold pSumH
  exact PL_bd (pTerm_PL hq hq' hr hs) (fun a a' h => pSumL_PL hq hq' hr 72 _ _ a.2 a'.2 h)
theorem pSum_PL {c : Nat → Int32} {q q' : Nat} {D D' : Nat → Vc} (hq : q ≤ q') (hq' : q' ≤ 8) : ∀ d (s s' : Pst), s'.1 = s.1 → PL (pSum c q D d s) (pSum c q' D' d s')
  | 0, s, s', hs => pSumH_PL hq hq' (fun _ _ _ => PL_l _ _) hs
  | d + 1, s, s', hs => pSumH_PL hq hq' (fun x x' h => pSum_PL hq hq' d x x' h) hs
theorem pBoth_PL {c : Nat → Int32} {q q' : Nat} {D D' : Nat → Vc} (hq : q ≤ q') (hq' : q' ≤ 8) {r : Vc × Vc × Nat × Pst} (h : pBoth c q D = .inr r) : ∃ r', pBoth c q' D' = .inr r' := by
  unfold pBoth at h ⊢
  have h1 := pSum_PL (c := c) (D := D) (D' := D') hq hq' 6 (0, 0, (fun _ => false), 0) (0, 0, (fun _ => false), 0) rfl
  cases e1 : pSum c q D 6 (0, 0, (fun _ => false), 0) with
  | inl p => rw [e1] at h; cases h
  | inr a =>
    rw [e1, pbd_r] at h
    obtain ⟨a', f1, f2⟩ := h1 a e1
    rw [f1, pbd_r, f2]
    by_cases g : c a.2.1 = 61
    · rw [if_pos g] at h ⊢
      have h2 := pSum_PL (c := c) (D := D) (D' := D') hq hq' 6 (a.2.1 + 1, a.2.2) (a.2.1 + 1, a'.2.2) rfl
      cases e2 : pSum c q D 6 (a.2.1 + 1, a.2.2) with
      | inl p => rw [e2] at h; cases h
      | inr e =>
        rw [e2, pbd_r] at h
        obtain ⟨e', f3, f4⟩ := h2 e e2
        rw [f3, pbd_r, f4]
        by_cases g2 : c e.2.1 = -1
        · rw [if_pos g2]; exact ⟨_, rfl⟩
        · rw [if_neg g2] at h; cases h
    · rw [if_neg g] at h; cases h
theorem Fok_le {q q' len : Nat} {f : Nat → Int32} (h : q ≤ q') (hq' : q' ≤ 8) (g : Fok q len f) : Fok q' len f := by
  obtain ⟨a, r, b⟩ := g
  exact ⟨a, pBoth_PL h hq' b⟩
theorem cA_cg {len : Nat} {f f' : Nat → Int32} (h : ∀ j, j < len → f' j = f j) : cA len f' = cA len f := by
  funext j
  unfold cA
  by_cases g : j < len
  · rw [if_pos g, if_pos g, h j g]
  · rw [if_neg g, if_neg g]
theorem Fok_cg {q len : Nat} {f f' : Nat → Int32} (g : Fok q len f) (h : ∀ j, j < len → f' j = f j) : Fok q len f' := by
  obtain ⟨a, r, b⟩ := g
  exact ⟨fun j hj => by rw [h j hj]; exact a j hj, r, by rw [cA_cg h]; exact b⟩
