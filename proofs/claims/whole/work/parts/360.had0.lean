/-! ===== PURE: DIMENSIONS that are had: which there are ===== -/
/-- by powers of the d last ones, of a size at most -/
def VG (σ : Sg) (q : Nat) : Nat → Nat → (Nat → Int) → (Nat → Int) → Prop
  | 0, _, v, w => w = v
  | d + 1, left, v, w => ∃ p : Int, p.natAbs ≤ left ∧ VG σ q d (left - p.natAbs) (fun u => v u + p * dZ σ (q - (d + 1)) u) w
/-- by so many factors, from lo on -/
def VA (σ : Sg) (q : Nat) : Nat → Nat → (Nat → Int) → (Nat → Int) → Prop
  | 0, _, v, w => w = v
  | d + 1, lo, v, w => ∃ f, lo ≤ f ∧ f < 2 * q ∧ VA σ q d f (fun u => v u + fvz σ f u) w
theorem VG_up {σ : Sg} {q : Nat} : ∀ d left left' v w, left ≤ left' → VG σ q d left v w → VG σ q d left' v w
  | 0, _, _, _, _, _, h => h
  | d + 1, left, left', v, w, hl, ⟨p, h1, h2⟩ => ⟨p, by omega, VG_up d _ _ _ w (by omega) h2⟩
theorem VA_dn {σ : Sg} {q : Nat} : ∀ d lo lo' v w, lo' ≤ lo → VA σ q d lo v w → VA σ q d lo' v w
  | 0, _, _, _, _, _, h => h
  | d + 1, lo, lo', v, w, hl, ⟨f, h1, h2, h3⟩ => ⟨f, by omega, h2, h3⟩
/-- a factor, many times -/
theorem VA_rep {σ : Sg} {q f : Nat} (hf : f < 2 * q) : ∀ (j len lo lo' : Nat) (v w : Nat → Int), f ≤ lo' → lo ≤ f → VA σ q len lo' (fun u => v u + (j : Int) * fvz σ f u) w → VA σ q (j + len) lo v w
  | 0, len, lo, lo', v, w, h1, h2, h => by
    have e : (fun u => v u + ((0 : Nat) : Int) * fvz σ f u) = v := by
      funext u
      show v u + ((0 : Nat) : Int) * fvz σ f u = v u
      rw [show ((0 : Nat) : Int) = 0 from rfl, Int.zero_mul, Int.add_zero]
    rw [e] at h
    rw [Nat.zero_add]
    exact VA_dn len lo' lo v w (by omega) h
  | j + 1, len, lo, lo', v, w, h1, h2, h => by
    rw [show j + 1 + len = (j + len) + 1 by omega]
    refine ⟨f, h2, hf, VA_rep hf j len f lo' _ w h1 (Nat.le_refl _) ?_⟩
    have e : (fun u => (v u + fvz σ f u) + (j : Int) * fvz σ f u) = (fun u => v u + ((j + 1 : Nat) : Int) * fvz σ f u) := by
      funext u
      show (v u + fvz σ f u) + (j : Int) * fvz σ f u = v u + ((j + 1 : Nat) : Int) * fvz σ f u
      rw [show ((j + 1 : Nat) : Int) = (j : Int) + 1 by omega, Int.add_mul, Int.one_mul]
      omega
    show VA σ q len lo' (fun u => (v u + fvz σ f u) + (j : Int) * fvz σ f u) w
    rw [e]; exact h
theorem VG_VA {σ : Sg} {q : Nat} : ∀ d left v w, d ≤ q → VG σ q d left v w → ∃ len, len ≤ left ∧ VA σ q len (2 * (q - d)) v w
  | 0, left, v, w, _, h => ⟨0, Nat.zero_le _, h⟩
  | d + 1, left, v, w, hd, ⟨p, h1, h2⟩ => by
    obtain ⟨len, l1, l2⟩ := VG_VA d _ _ w (by omega) h2
    rw [show 2 * (q - d) = 2 * (q - (d + 1)) + 2 by omega] at l2
    refine ⟨p.natAbs + len, by omega, ?_⟩
    by_cases hp : 0 ≤ p
    · refine VA_rep (f := 2 * (q - (d + 1))) (by omega) p.natAbs len _ (2 * (q - (d + 1)) + 2) v w (by omega) (Nat.le_refl _) ?_
      have e : (fun u => v u + ((p.natAbs : Nat) : Int) * fvz σ (2 * (q - (d + 1))) u) = (fun u => v u + p * dZ σ (q - (d + 1)) u) := by
        funext u
        show v u + ((p.natAbs : Nat) : Int) * fvz σ (2 * (q - (d + 1))) u = v u + p * dZ σ (q - (d + 1)) u
        unfold fvz
        rw [if_pos (by omega), show 2 * (q - (d + 1)) / 2 = q - (d + 1) by omega, show ((p.natAbs : Nat) : Int) = p by omega]
      rw [e]; exact l2
    · refine VA_rep (f := 2 * (q - (d + 1)) + 1) (by omega) p.natAbs len _ (2 * (q - (d + 1)) + 2) v w (by omega) (by omega) ?_
      have e : (fun u => v u + ((p.natAbs : Nat) : Int) * fvz σ (2 * (q - (d + 1)) + 1) u) = (fun u => v u + p * dZ σ (q - (d + 1)) u) := by
        funext u
        show v u + ((p.natAbs : Nat) : Int) * fvz σ (2 * (q - (d + 1)) + 1) u = v u + p * dZ σ (q - (d + 1)) u
        unfold fvz
        rw [if_neg (by omega), show (2 * (q - (d + 1)) + 1) / 2 = q - (d + 1) by omega, show ((p.natAbs : Nat) : Int) = -p by omega, Int.neg_mul_neg]
      rw [e]; exact l2
/-- one more -/
theorem VG_one {σ : Sg} {q k : Nat} {s : Int} (hs : s = 1 ∨ s = -1) (hk : k < q) : ∀ d left v w, d ≤ q → q - d ≤ k → VG σ q d left (fun u => v u + s * dZ σ k u) w → VG σ q d (left + 1) v w
  | 0, left, v, w, hd, hkd, h => by omega
  | d + 1, left, v, w, hd, hkd, ⟨p, h1, h2⟩ => by
    by_cases e : k = q - (d + 1)
    · refine ⟨p + s, by omega, VG_up d _ _ _ w (by omega) (?_ : VG σ q d (left - p.natAbs) _ w)⟩
      have e2 : (fun u => (v u + s * dZ σ k u) + p * dZ σ (q - (d + 1)) u) = (fun u => v u + (p + s) * dZ σ (q - (d + 1)) u) := by
        funext u
        show (v u + s * dZ σ k u) + p * dZ σ (q - (d + 1)) u = v u + (p + s) * dZ σ (q - (d + 1)) u
        rw [e, Int.add_mul]; omega
      rw [← e2]; exact h2
    · refine ⟨p, by omega, ?_⟩
      have e2 : (fun u => (v u + s * dZ σ k u) + p * dZ σ (q - (d + 1)) u) = (fun u => (v u + p * dZ σ (q - (d + 1)) u) + s * dZ σ k u) := by
        funext u
        show (v u + s * dZ σ k u) + p * dZ σ (q - (d + 1)) u = (v u + p * dZ σ (q - (d + 1)) u) + s * dZ σ k u
        omega
      have h3 : VG σ q d (left - p.natAbs) (fun u => (v u + p * dZ σ (q - (d + 1)) u) + s * dZ σ k u) w := by rw [← e2]; exact h2
      have := VG_one hs hk d (left - p.natAbs) (fun u => v u + p * dZ σ (q - (d + 1)) u) w (by omega) (by omega) h3
      rw [show left + 1 - p.natAbs = left - p.natAbs + 1 by omega]
      exact this
theorem VG_nil {σ : Sg} {q : Nat} : ∀ d left v, VG σ q d left v v
  | 0, _, _ => rfl
  | d + 1, left, v => by
    refine ⟨0, by simp, ?_⟩
    have e : (fun u => v u + (0 : Int) * dZ σ (q - (d + 1)) u) = v := by
      funext u
      show v u + (0 : Int) * dZ σ (q - (d + 1)) u = v u
      rw [Int.zero_mul, Int.add_zero]
    rw [e]; exact VG_nil d _ v
theorem VA_VG {σ : Sg} {q : Nat} : ∀ len lo v w, VA σ q len lo v w → VG σ q q len v w
  | 0, lo, v, w, h => by
    have h' : w = v := h
    subst h'
    exact VG_nil q 0 w
  | len + 1, lo, v, w, ⟨f, h1, h2, h3⟩ => by
    have ih := VA_VG len f _ w h3
    by_cases g : f % 2 = 0
    · refine VG_one (k := f / 2) (s := 1) (Or.inl rfl) (by omega) q len v w (Nat.le_refl _) (by omega) ?_
      have e : (fun u => v u + fvz σ f u) = (fun u => v u + 1 * dZ σ (f / 2) u) := by
        funext u
        unfold fvz
        rw [if_pos g, Int.one_mul]
      rw [← e]; exact ih
    · refine VG_one (k := f / 2) (s := -1) (Or.inr rfl) (by omega) q len v w (Nat.le_refl _) (by omega) ?_
      have e : (fun u => v u + fvz σ f u) = (fun u => v u + (-1) * dZ σ (f / 2) u) := by
        funext u
        unfold fvz
        rw [if_neg g, Int.neg_mul, Int.one_mul]
      rw [← e]; exact ih
theorem mul_na {p x : Int} {a : Nat} (hx : x.natAbs ≤ a) : (p * x).natAbs ≤ a * p.natAbs := by
  rw [Int.natAbs_mul, Nat.mul_comm]
  exact Nat.mul_le_mul_right _ hx
theorem VG_le {q : Nat} {σ : Sg} (hM : MR 1 118 q σ) : ∀ d left v w (B : Nat), d ≤ q → (∀ u, u < 5 → (v u).natAbs ≤ B) → VG σ q d left v w → ∀ u, u < 5 → (w u).natAbs ≤ B + 20 * left
  | 0, left, v, w, B, _, hB, h, u, hu => by
    have h' : w = v := h
    subst h'
    have := hB u hu
    omega
  | d + 1, left, v, w, B, hd, hB, ⟨p, h1, h2⟩, u, hu => by
    have := VG_le hM d (left - p.natAbs) _ w (B + 20 * p.natAbs) (by omega) (fun u hu => by
      have w1 := hB u hu
      have w2 := mul_na (p := p) (dZ_le hM (show q - (d + 1) < q by omega) hu)
      show (v u + p * dZ σ (q - (d + 1)) u).natAbs ≤ _
      generalize p * dZ σ (q - (d + 1)) u = y at w2
      omega) h2 u hu
    omega
/-- the reference's key -/
def KM (v : Nat → Int) : Int := (((v 0 * 1000 + v 1) * 1000 + v 2) * 1000 + v 3) * 1000 + v 4
theorem KM_0 {v : Nat → Int} (h : ∀ u, u < 5 → (v u).natAbs ≤ 200) : KM v = 0 ↔ ∀ u, u < 5 → v u = 0 := by
  have h0 := h 0 (by omega)
  have h1 := h 1 (by omega)
  have h2 := h 2 (by omega)
  have h3 := h 3 (by omega)
  have h4 := h 4 (by omega)
  unfold KM
  constructor
  · intro e u hu
    have e4 : v 4 = 0 := by omega
    have e3 : v 3 = 0 := by omega
    have e2 : v 2 = 0 := by omega
    have e1 : v 1 = 0 := by omega
    have e0 : v 0 = 0 := by omega
    rcases lt5 hu with rfl | rfl | rfl | rfl | rfl <;> assumption
  · intro e
    rw [e 0 (by omega), e 1 (by omega), e 2 (by omega), e 3 (by omega), e 4 (by omega)]; rfl
theorem KM_sub (v w : Nat → Int) : KM (fun u => v u - w u) = KM v - KM w := by unfold KM; dsimp only; grind
theorem keys_eq {v w : Nat → Int} (hv : ∀ u, u < 5 → (v u).natAbs ≤ 60) (hw : ∀ u, u < 5 → (w u).natAbs ≤ 60) : Kz v = Kz w ↔ KM v = KM w := by
  have b : ∀ u, u < 5 → (v u - w u).natAbs ≤ 200 := fun u hu => by have := hv u hu; have := hw u hu; omega
  have a1 := Kz_0 (v := fun u => v u - w u) (fun u hu => by have := b u hu; omega)
  have a2 := KM_0 (v := fun u => v u - w u) b
  rw [Kz_sub] at a1
  rw [KM_sub] at a2
  constructor
  · intro e
    have := a2.mpr (a1.mp (by omega))
    omega
  · intro e
    have := a1.mpr (a2.mp (by omega))
    omega
/-- as many in one list as in another -/
theorem rel_le {R : Int64 → Int64 → Prop} : ∀ (S T : List Int64), S.Nodup → (∀ x, x ∈ S → ∃ y, y ∈ T ∧ R x y) → (∀ x x' y, R x y → R x' y → x = x') → S.length ≤ T.length
  | [], _, _, _, _ => Nat.zero_le _
  | x :: S, T, hn, h, hi => by
    obtain ⟨y, hy, hr⟩ := h x (List.mem_cons_self ..)
    obtain ⟨hx, hn2⟩ := List.nodup_cons.mp hn
    have := rel_le S (T.erase y) hn2 (fun x' hx' => by
      obtain ⟨y', hy', hr'⟩ := h x' (List.mem_cons_of_mem _ hx')
      refine ⟨y', (List.mem_erase_of_ne (fun e => ?_)).mpr hy', hr'⟩
      subst e
      exact hx (hi x x' y' hr hr' ▸ hx')) hi
    have hl := List.length_erase_of_mem hy
    have hp := List.length_pos_of_mem hy
    simp only [List.length_cons]
    omega
