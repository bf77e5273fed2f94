/-! ===== PURE: more rows than places: one of them is had by the others ===== -/
def sm : Nat → (Nat → Int) → Int
  | 0, _ => 0
  | n + 1, f => sm n f + f n
def skp (p i : Nat) : Nat := if i < p then i else i + 1
theorem sm_cg : ∀ {n : Nat} {f g : Nat → Int}, (∀ i, i < n → f i = g i) → sm n f = sm n g
  | 0, _, _, _ => rfl
  | n + 1, f, g, h => by unfold sm; rw [sm_cg (n := n) (fun i hi => h i (by omega)), h n (by omega)]
theorem sm_z : ∀ {n : Nat} {f : Nat → Int}, (∀ i, i < n → f i = 0) → sm n f = 0
  | 0, _, _ => rfl
  | n + 1, f, h => by unfold sm; rw [sm_z (n := n) (fun i hi => h i (by omega)), h n (by omega)]; rfl
theorem sm_l (a b : Int) (f g : Nat → Int) : ∀ n, sm n (fun i => a * f i + b * g i) = a * sm n f + b * sm n g
  | 0 => by simp [sm]
  | n + 1 => by unfold sm; rw [sm_l a b f g n]; grind
theorem sm_skip (f : Nat → Int) : ∀ {n p : Nat}, p ≤ n → sm (n + 1) f = sm n (fun i => f (skp p i)) + f p
  | 0, p, h => by obtain rfl : p = 0 := by omega
                  rfl
  | n + 1, p, h => by
    by_cases e : p = n + 1
    · subst e
      show sm (n + 1) f + f (n + 1) = _
      rw [sm_cg (n := n + 1) (f := fun i => f (skp (n + 1) i)) (g := f) (fun i hi => by unfold skp; rw [if_pos hi])]
    · have ih := sm_skip f (n := n) (p := p) (by omega)
      show sm (n + 1) f + f (n + 1) = sm n (fun i => f (skp p i)) + f (skp p n) + f p
      rw [ih, show skp p n = n + 1 by unfold skp; rw [if_neg (by omega)]]
      omega
theorem ker : ∀ (m : Nat) (R : Nat → Nat → Int), ∃ x : Nat → Int, (∃ i, i ≤ m ∧ x i ≠ 0) ∧ ∀ j, j < m → sm (m + 1) (fun i => x i * R i j) = 0
  | 0, R => ⟨fun _ => 1, ⟨0, by omega, by decide⟩, fun j hj => by omega⟩
  | m + 1, R => by
    by_cases hz : ∀ i, i ≤ m + 1 → R i m = 0
    · obtain ⟨x, ⟨i0, hi0, hx0⟩, hx⟩ := ker m R
      refine ⟨fun i => if i ≤ m then x i else 0, ⟨i0, by omega, by show (if i0 ≤ m then x i0 else 0) ≠ 0; rw [if_pos hi0]; exact hx0⟩, fun j hj => ?_⟩
      by_cases e : j = m
      · subst e
        exact sm_z (fun i hi => by rw [hz i (by omega), Int.mul_zero])
      · show sm (m + 1) _ + (if m + 1 ≤ m then x (m + 1) else 0) * R (m + 1) j = 0
        rw [if_neg (by omega), Int.zero_mul, Int.add_zero]
        refine Eq.trans (sm_cg (fun i hi => ?_)) (hx j (by omega))
        show (if i ≤ m then x i else 0) * R i j = _
        rw [if_pos (by omega)]
    · obtain ⟨p, hp, ha⟩ : ∃ p, p ≤ m + 1 ∧ R p m ≠ 0 := by
        apply Classical.byContradiction
        intro h
        apply hz
        intro i hi
        apply Classical.byContradiction
        intro h2
        exact h ⟨i, hi, h2⟩
      obtain ⟨x, ⟨i0, hi0, hx0⟩, hx⟩ := ker m (fun i j => R p m * R (skp p i) j - R (skp p i) m * R p j)
      have usk : ∀ i, (if skp p i < p then skp p i else skp p i - 1) = i := by
        intro i; unfold skp; by_cases e : i < p
        · rw [if_pos e, if_pos e]
        · rw [if_neg e, if_neg (by omega)]; omega
      have nsk : ∀ i, skp p i ≠ p := by
        intro i; unfold skp; by_cases e : i < p
        · rw [if_pos e]; omega
        · rw [if_neg e]; omega
      refine ⟨fun i => if i = p then - sm (m + 1) (fun i => x i * R (skp p i) m) else R p m * x (if i < p then i else i - 1), ⟨skp p i0, ?_, ?_⟩, fun j hj => ?_⟩
      · unfold skp; by_cases e : i0 < p
        · rw [if_pos e]; omega
        · rw [if_neg e]; omega
      · show (if skp p i0 = p then _ else R p m * x (if skp p i0 < p then skp p i0 else skp p i0 - 1)) ≠ 0
        rw [if_neg (nsk i0), usk]
        intro e
        rcases Int.mul_eq_zero.mp e with q | q
        · exact ha q
        · exact hx0 q
      · rw [sm_skip _ hp]
        simp only [if_true]
        rw [sm_cg (n := m + 1) (g := fun i => R p m * (x i * R (skp p i) j) + 0 * (x i * R (skp p i) j)) (fun i hi => by rw [if_neg (nsk i), usk]; grind), sm_l]
        by_cases e : j = m
        · subst e; grind
        · have w := hx j (by omega)
          have w2 : sm (m + 1) (fun i => x i * (R p m * R (skp p i) j - R (skp p i) m * R p j)) = R p m * sm (m + 1) (fun i => x i * R (skp p i) j) + (- R p j) * sm (m + 1) (fun i => x i * R (skp p i) m) := by
            rw [← sm_l]
            exact sm_cg (fun i _ => by grind)
          rw [w2] at w
          grind
