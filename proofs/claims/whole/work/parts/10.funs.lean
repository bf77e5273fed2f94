/-! ===== methods as plain functions ===== -/
def gd {α : Type} (b : Bool) (x : Option α) : Option α := bif b then x else none
def bd {α β : Type} (x : Option (α × Sg)) (f : α → Sg → Option β) : Option β := match x with
  | none => none
  | some (v, s) => f v s
theorem gd_some {α : Type} {b : Bool} {x : Option α} {r : α} (h : gd b x = some r) : b = true ∧ x = some r := by
  cases b with
  | false => cases h
  | true => exact ⟨rfl, h⟩
theorem bd_some {α β : Type} {x : Option (α × Sg)} {f : α → Sg → Option β} {r : β} (h : bd x f = some r) : ∃ v s, x = some (v, s) ∧ f v s = some r := by
  match x, h with
  | some (v, s), h => exact ⟨v, s, rfl, h⟩
/-- more rounds than any loop makes -/
def fu : Nat := 20000
def inB (i : Int32) (n : Nat) : Bool := !(decide (i < 0)) && Nat.blt i.toNatClampNeg n
theorem inB_in {i : Int32} {n : Nat} (h : inB i n = true) : vp_in i n := by
  simp only [inB, Bool.and_eq_true, Bool.not_eq_true', decide_eq_false_iff_not, Nat.blt_eq] at h
  intro q
  rcases q with q | q
  · exact h.1 q
  · omega
def arB (k c : Nat) (i : Int32) : Bool := (ck c == k) && inB i (al c)
theorem arB_in {k c : Nat} {i : Int32} (h : arB k c i = true) : ck c = k ∧ vp_in i (al c) := by
  simp only [arB, Bool.and_eq_true, beq_iff_eq] at h
  exact ⟨h.1, inB_in h.2⟩
def ckB (c : Nat) : Bool := Nat.blt (ck c) 5
theorem ckB_lt {c : Nat} (h : ckB c = true) : ck c < 5 := by simpa [ckB] using h
def neB (x : Int32) : Bool := !(decide (x = 0))
theorem neB_ne {x : Int32} (h : neB x = true) : ¬ x = 0 := by simpa [neB] using h
def neBL (x : Int64) : Bool := !(decide (x = 0))
theorem neBL_ne {x : Int64} (h : neBL x = true) : ¬ x = 0 := by simpa [neBL] using h
def nbB (x : Int32) : Bool := decide (x = 0) || decide (x = 1)
theorem nbB_ok {x : Int32} (h : nbB x = true) : nb x := by simpa [nbB, nb] using h
def cpB (c0 c1 : Nat) (sp dp n : Int32) : Bool := (ck c0 == 0) && (ck c1 == 0) && !(decide (sp < 0)) && !(decide (dp < 0)) && !(decide (n < 0)) && Nat.ble (sp.toNatClampNeg + n.toNatClampNeg) (al c0) && Nat.ble (dp.toNatClampNeg + n.toNatClampNeg) (al c1)
theorem cpB_ok {c0 c1 : Nat} {sp dp n : Int32} {k : Nat} (hk : k ≤ 8) (h : cpB c0 c1 sp dp n = true) : (ck c0 = 0 ∧ ck c1 = 0 ∧ k ≤ 8) ∧ (¬ sp < 0 ∧ ¬ dp < 0 ∧ ¬ n < 0) ∧ sp.toNatClampNeg + n.toNatClampNeg ≤ al c0 ∧ dp.toNatClampNeg + n.toNatClampNeg ≤ al c1 := by
  simp only [cpB, Bool.and_eq_true, beq_iff_eq, Bool.not_eq_true', decide_eq_false_iff_not, Nat.ble_eq] at h
  obtain ⟨⟨⟨⟨⟨⟨h1, h2⟩, h3⟩, h4⟩, h5⟩, h6⟩, h7⟩ := h
  exact ⟨⟨h1, h2, hk⟩, ⟨h3, h4, h5⟩, h6, h7⟩
theorem conj_c {p : Prop} {l : List Prop} (h1 : p) (h2 : conj l) : conj (p :: l) := ⟨h1, h2⟩
section RCX
variable {X : RO} {G : Env1} {cs : List (List Ent)} {Q : Option Value → Sg → Prop} {lv : LV} {st : List Value} {σ : Sg}
theorem Rc.ifp {c : Prop} {i : Decidable c} {a b : Nat} (hc : c) (h : Rc X G cs (a, lv, st, σ) Q) : Rc X G cs (@ite Nat c i a b, lv, st, σ) Q := by rw [if_pos hc]; exact h
theorem Rc.ifn {c : Prop} {i : Decidable c} {a b : Nat} (hc : ¬ c) (h : Rc X G cs (b, lv, st, σ) Q) : Rc X G cs (@ite Nat c i a b, lv, st, σ) Q := by rw [if_neg hc]; exact h
theorem Rc.sw0 {x : Int32} {d : Nat} {k : Int} (h : Rc X G cs (d, lv, st, σ) Q) : Rc X G cs (swt x d k [], lv, st, σ) Q := h
theorem Rc.sw1 {x : Int32} {d : Nat} {k t : Int} {r : List Int} (hc : x = Int32.ofInt k) (h : Rc X G cs (t.toNat, lv, st, σ) Q) : Rc X G cs (swt x d k (t :: r), lv, st, σ) Q := by unfold swt; rw [if_pos hc]; exact h
theorem Rc.sw2 {x : Int32} {d : Nat} {k t : Int} {r : List Int} (hc : ¬ x = Int32.ofInt k) (h : Rc X G cs (swt x d (k + 1) r, lv, st, σ) Q) : Rc X G cs (swt x d k (t :: r), lv, st, σ) Q := by unfold swt; rw [if_neg hc]; exact h
end RCX
def j_refused_0_b22 (v1 : Int32) (σ : Sg) : Option (Int32 × Sg) :=
  some (v1, σ)
def j_refused_0 (v1 : Int32) (σ : Sg) : Option (Int32 × Sg) :=
  if (-1) < v1 then j_refused_0_b22 v1 σ else if v1 < (-6) then j_refused_0_b22 v1 σ else gd (inB (-v1) 7) (gd (inB (-v1) 7) (j_refused_0_b22 v1 (si σ 20 (-v1).toNatClampNeg ((σ.1 20 (-v1).toNatClampNeg) + 1))))
def j_letter_0_b27 (σ : Sg) : Option (Int32 × Sg) :=
  bd (j_refused_0 (-6) σ) fun r1 σ1 => some (r1, σ1)
def j_letter_0 (v1 : Int32) (σ : Sg) : Option (Int32 × Sg) :=
  if 0 ≤ v1 then if 255 < v1 then j_letter_0_b27 σ else if (σ.1 0 9) < 72 then gd (inB (σ.1 0 9) 72) (some ((si (si σ 11 (σ.1 0 9).toNatClampNeg v1) 0 9 (((si σ 11 (σ.1 0 9).toNatClampNeg v1).1 0 9) + 1)).1 0 9, si (si σ 11 (σ.1 0 9).toNatClampNeg v1) 0 9 (((si σ 11 (σ.1 0 9).toNatClampNeg v1).1 0 9) + 1))) else j_letter_0_b27 σ else bd (j_refused_0 (-4) σ) fun r4 σ4 => some (r4, σ4)
def j_forget_3 (σ : Sg) : Option (Unit × Sg) :=
  some ((), si σ 3 2 0)
def j_fillAII_x_H5 (k5 : Nat → Int32 → Int32 → Int32 → Sg → Option (Unit × Sg)) (v0 : Nat) (v1 : Int32) (v2 : Int32) (v3 : Int32) (σ : Sg) : Option (Unit × Sg) :=
  if v3 ≤ v2 then some ((), σ) else gd (arB 0 v0 v2) (k5 v0 v1 (v2 + 1) v3 (si σ v0 v2.toNatClampNeg v1))
def j_fillAII_x_L5 : Nat → Nat → Int32 → Int32 → Int32 → Sg → Option (Unit × Sg)
  | 0, _, _, _, _, _ => none
  | n + 1, v0, v1, v2, v3, σ => j_fillAII_x_H5 (j_fillAII_x_L5 n) v0 v1 v2 v3 σ
def j_fillAII_x (v0 : Nat) (v1 : Int32) (σ : Sg) : Option (Unit × Sg) :=
  gd (ckB v0) (j_fillAII_x_L5 fu v0 v1 0 (Int32.ofNat (al v0)) σ)
def j_add_1_b62 (σ : Sg) : Option (Unit × Sg) :=
  some ((), σ)
def j_add_1 (v1 : Int32) (σ : Sg) : Option (Unit × Sg) :=
  if 8 ≤ (σ.1 1 0) then j_add_1_b62 σ else gd (inB (σ.1 1 0) 8) (gd (inB ((si σ 21 (σ.1 1 0).toNatClampNeg v1).1 1 0) 8) (gd (inB ((si (si σ 21 (σ.1 1 0).toNatClampNeg v1) 31 ((si σ 21 (σ.1 1 0).toNatClampNeg v1).1 1 0).toNatClampNeg 0).1 1 0) 8) (gd (inB ((si (si (si σ 21 (σ.1 1 0).toNatClampNeg v1) 31 ((si σ 21 (σ.1 1 0).toNatClampNeg v1).1 1 0).toNatClampNeg 0) 32 ((si (si σ 21 (σ.1 1 0).toNatClampNeg v1) 31 ((si σ 21 (σ.1 1 0).toNatClampNeg v1).1 1 0).toNatClampNeg 0).1 1 0).toNatClampNeg 1).1 1 0) 8) (bd (j_fillAII_x (23 + ((si (si (si σ 21 (σ.1 1 0).toNatClampNeg v1) 31 ((si σ 21 (σ.1 1 0).toNatClampNeg v1).1 1 0).toNatClampNeg 0) 32 ((si (si σ 21 (σ.1 1 0).toNatClampNeg v1) 31 ((si σ 21 (σ.1 1 0).toNatClampNeg v1).1 1 0).toNatClampNeg 0).1 1 0).toNatClampNeg 1).1 1 0).toNatClampNeg) 0 (si (si (si σ 21 (σ.1 1 0).toNatClampNeg v1) 31 ((si σ 21 (σ.1 1 0).toNatClampNeg v1).1 1 0).toNatClampNeg 0) 32 ((si (si σ 21 (σ.1 1 0).toNatClampNeg v1) 31 ((si σ 21 (σ.1 1 0).toNatClampNeg v1).1 1 0).toNatClampNeg 0).1 1 0).toNatClampNeg 1)) fun _ σ5 => j_add_1_b62 (si σ5 1 0 ((σ5.1 1 0) + 1))))))
def j_bringUp_5_H25 (k25 : Int32 → Int32 → Sg → Option (Int32 × Sg)) (v2 : Int32) (v3 : Int32) (σ : Sg) : Option (Int32 × Sg) :=
  if (σ.1 5 2) ≤ v3 then some (1, σ) else gd (inB v2 5) (gd (arB 1 (79 + v2.toNatClampNeg) v3) (gd (inB v2 5) (gd (inB (σ.1 5 3) 5) (gd (arB 1 (79 + (σ.1 5 3).toNatClampNeg) v3) (gd (arB 1 (79 + v2.toNatClampNeg) v3) (gd (inB ((sl σ (79 + v2.toNatClampNeg) v3.toNatClampNeg (σ.2 (79 + (σ.1 5 3).toNatClampNeg) v3.toNatClampNeg)).1 5 3) 5) (gd (arB 1 (79 + ((sl σ (79 + v2.toNatClampNeg) v3.toNatClampNeg (σ.2 (79 + (σ.1 5 3).toNatClampNeg) v3.toNatClampNeg)).1 5 3).toNatClampNeg) v3) (k25 v2 (v3 + 1) (sl (sl σ (79 + v2.toNatClampNeg) v3.toNatClampNeg (σ.2 (79 + (σ.1 5 3).toNatClampNeg) v3.toNatClampNeg)) (79 + ((sl σ (79 + v2.toNatClampNeg) v3.toNatClampNeg (σ.2 (79 + (σ.1 5 3).toNatClampNeg) v3.toNatClampNeg)).1 5 3).toNatClampNeg) v3.toNatClampNeg (σ.2 (79 + v2.toNatClampNeg) v3.toNatClampNeg))))))))))
def j_bringUp_5_L25 : Nat → Int32 → Int32 → Sg → Option (Int32 × Sg)
  | 0, _, _, _ => none
  | n + 1, v2, v3, σ => j_bringUp_5_H25 (j_bringUp_5_L25 n) v2 v3 σ
def j_bringUp_5_H5 (k5 : Int32 → Int32 → Sg → Option (Int32 × Sg)) (v1 : Int32) (v2 : Int32) (σ : Sg) : Option (Int32 × Sg) :=
  if 5 ≤ v2 then some (0, σ) else gd (inB v2 5) (gd (arB 1 (79 + v2.toNatClampNeg) v1) (if (lg_cmp (σ.2 (79 + v2.toNatClampNeg) v1.toNatClampNeg) 0) = 0 then k5 v1 (v2 + 1) σ else j_bringUp_5_L25 fu v2 0 σ))
def j_bringUp_5_L5 : Nat → Int32 → Int32 → Sg → Option (Int32 × Sg)
  | 0, _, _, _ => none
  | n + 1, v1, v2, σ => j_bringUp_5_H5 (j_bringUp_5_L5 n) v1 v2 σ
def j_bringUp_5 (v1 : Int32) (σ : Sg) : Option (Int32 × Sg) :=
  j_bringUp_5_L5 fu v1 (σ.1 5 3) σ
def j_clearOthers_5_b115 (k15 : Int32 → Int64 → Int32 → Sg → Option (Unit × Sg)) (v1 : Int32) (v2 : Int64) (v4 : Int32) (σ : Sg) : Option (Unit × Sg) :=
  k15 v1 v2 (v4 + 1) σ
def j_clearOthers_5_H35 (k15 : Int32 → Int64 → Int32 → Sg → Option (Unit × Sg)) (k35 : Int32 → Int64 → Int32 → Int64 → Int32 → Sg → Option (Unit × Sg)) (v1 : Int32) (v2 : Int64) (v4 : Int32) (v5 : Int64) (v7 : Int32) (σ : Sg) : Option (Unit × Sg) :=
  if (σ.1 5 2) ≤ v7 then j_clearOthers_5_b115 k15 v1 v2 v4 σ else if v4 = (σ.1 5 3) then j_clearOthers_5_b115 k15 v1 v2 v4 σ else if (lg_cmp (σ.2 5 5) 0) = 0 then j_clearOthers_5_b115 k15 v1 v2 v4 σ else gd (inB v4 5) (gd (arB 1 (79 + v4.toNatClampNeg) v7) (gd (inB v4 5) (gd (inB (σ.1 5 3) 5) (gd (arB 1 (79 + (σ.1 5 3).toNatClampNeg) v7) (gd (neBL (σ.2 5 5)) (gd (arB 1 (79 + v4.toNatClampNeg) v7) (k35 v1 v2 v4 v5 (v7 + 1) (sl σ (79 + v4.toNatClampNeg) v7.toNatClampNeg ((((σ.2 (79 + v4.toNatClampNeg) v7.toNatClampNeg) * v2) - (v5 * (σ.2 (79 + (σ.1 5 3).toNatClampNeg) v7.toNatClampNeg))) / (σ.2 5 5))))))))))
def j_clearOthers_5_L35 (k15 : Int32 → Int64 → Int32 → Sg → Option (Unit × Sg)) : Nat → Int32 → Int64 → Int32 → Int64 → Int32 → Sg → Option (Unit × Sg)
  | 0, _, _, _, _, _, _ => none
  | n + 1, v1, v2, v4, v5, v7, σ => j_clearOthers_5_H35 k15 (j_clearOthers_5_L35 k15 n) v1 v2 v4 v5 v7 σ
def j_clearOthers_5_H15 (k15 : Int32 → Int64 → Int32 → Sg → Option (Unit × Sg)) (v1 : Int32) (v2 : Int64) (v4 : Int32) (σ : Sg) : Option (Unit × Sg) :=
  if 5 ≤ v4 then some ((), sl σ 5 5 v2) else gd (inB v4 5) (gd (arB 1 (79 + v4.toNatClampNeg) v1) (j_clearOthers_5_L35 k15 fu v1 v2 v4 (σ.2 (79 + v4.toNatClampNeg) v1.toNatClampNeg) 0 σ))
def j_clearOthers_5_L15 : Nat → Int32 → Int64 → Int32 → Sg → Option (Unit × Sg)
  | 0, _, _, _, _ => none
  | n + 1, v1, v2, v4, σ => j_clearOthers_5_H15 (j_clearOthers_5_L15 n) v1 v2 v4 σ
def j_clearOthers_5 (v1 : Int32) (σ : Sg) : Option (Unit × Sg) :=
  gd (inB (σ.1 5 3) 5) (gd (arB 1 (79 + (σ.1 5 3).toNatClampNeg) v1) (j_clearOthers_5_L15 fu v1 (σ.2 (79 + (σ.1 5 3).toNatClampNeg) v1.toNatClampNeg) 0 σ))
def j_bit_s (v0 : Int32) (v1 : Int32) (σ : Sg) : Option (Int32 × Sg) :=
  some ((v0 >>> (v1 &&& 31)) &&& 1, σ)
def j_run_5_68_b142 (k74 : Int32 → Int32 → Sg → Option (Unit × Sg)) (v3 : Int32) (v4 : Int32) (σ : Sg) : Option (Unit × Sg) :=
  k74 v3 (v4 + 1) σ
def j_run_5_68_H74 (k74 : Int32 → Int32 → Sg → Option (Unit × Sg)) (v3 : Int32) (v4 : Int32) (σ : Sg) : Option (Unit × Sg) :=
  if (σ.1 5 2) ≤ v4 then some ((), σ) else bd (j_bit_s v3 v4 σ) fun r1 σ1 => if r1 = 1 then bd (j_bringUp_5 v4 σ1) fun r2 σ2 => if r2 = 0 then j_run_5_68_b142 k74 v3 v4 σ2 else bd (j_clearOthers_5 v4 σ2) fun _ σ3 => gd (inB v4 8) (j_run_5_68_b142 k74 v3 v4 (si (si (si σ3 84 v4.toNatClampNeg (σ3.1 5 3)) 5 4 (((si σ3 84 v4.toNatClampNeg (σ3.1 5 3)).1 5 4) ||| ((1 : Int32) <<< (v4 &&& 31)))) 5 3 (((si (si σ3 84 v4.toNatClampNeg (σ3.1 5 3)) 5 4 (((si σ3 84 v4.toNatClampNeg (σ3.1 5 3)).1 5 4) ||| ((1 : Int32) <<< (v4 &&& 31)))).1 5 3) + 1))) else j_run_5_68_b142 k74 v3 v4 σ1
def j_run_5_68_L74 : Nat → Int32 → Int32 → Sg → Option (Unit × Sg)
  | 0, _, _, _ => none
  | n + 1, v3, v4, σ => j_run_5_68_H74 (j_run_5_68_L74 n) v3 v4 σ
def j_run_5_68_H32 (k23 : Int32 → Int32 → Sg → Option (Unit × Sg)) (k32 : Int32 → Int32 → Int32 → Sg → Option (Unit × Sg)) (v3 : Int32) (v4 : Int32) (v5 : Int32) (σ : Sg) : Option (Unit × Sg) :=
  if (σ.1 5 2) ≤ v5 then k23 v3 (v4 + 1) σ else gd (inB v4 5) (gd (inB v5 8) (gd (arB 0 (69 + v5.toNatClampNeg) v4) (gd (arB 1 (79 + v4.toNatClampNeg) v5) (k32 v3 v4 (v5 + 1) (sl σ (79 + v4.toNatClampNeg) v5.toNatClampNeg ((σ.1 (69 + v5.toNatClampNeg) v4.toNatClampNeg).toInt64))))))
def j_run_5_68_L32 (k23 : Int32 → Int32 → Sg → Option (Unit × Sg)) : Nat → Int32 → Int32 → Int32 → Sg → Option (Unit × Sg)
  | 0, _, _, _, _ => none
  | n + 1, v3, v4, v5, σ => j_run_5_68_H32 k23 (j_run_5_68_L32 k23 n) v3 v4 v5 σ
def j_run_5_68_H23 (k23 : Int32 → Int32 → Sg → Option (Unit × Sg)) (v3 : Int32) (v4 : Int32) (σ : Sg) : Option (Unit × Sg) :=
  if 5 ≤ v4 then j_run_5_68_L74 fu v3 0 σ else j_run_5_68_L32 k23 fu v3 v4 0 σ
def j_run_5_68_L23 : Nat → Int32 → Int32 → Sg → Option (Unit × Sg)
  | 0, _, _, _ => none
  | n + 1, v3, v4, σ => j_run_5_68_H23 (j_run_5_68_L23 n) v3 v4 σ
def j_run_5_68 (v2 : Int32) (v3 : Int32) (σ : Sg) : Option (Unit × Sg) :=
  j_run_5_68_L23 fu v3 0 (sl (si (si (si σ 5 2 v2) 5 3 0) 5 4 0) 5 5 1)
def j_keyOf_x_H11 (k11 : Int64 → Nat → Int32 → Int32 → Sg → Option (Int64 × Sg)) (v1 : Int64) (v3 : Nat) (v4 : Int32) (v5 : Int32) (σ : Sg) : Option (Int64 × Sg) :=
  if v4 ≤ v5 then some (v1, σ) else gd (arB 0 v3 v5) (k11 ((v1 * 4096) + ((σ.1 v3 v5.toNatClampNeg).toInt64)) v3 v4 (v5 + 1) σ)
def j_keyOf_x_L11 : Nat → Int64 → Nat → Int32 → Int32 → Sg → Option (Int64 × Sg)
  | 0, _, _, _, _, _ => none
  | n + 1, v1, v3, v4, v5, σ => j_keyOf_x_H11 (j_keyOf_x_L11 n) v1 v3 v4 v5 σ
def j_keyOf_x (v0 : Nat) (σ : Sg) : Option (Int64 × Sg) :=
  gd (ckB v0) (j_keyOf_x_L11 fu 0 v0 (Int32.ofNat (al v0)) 0 σ)
def j_setPowers_x_x_H32 (k32 : Int32 → Nat → Int32 → Sg → Option (Unit × Sg)) (v0 : Int32) (v2 : Nat) (v3 : Int32) (σ : Sg) : Option (Unit × Sg) :=
  if 5 ≤ v3 then some ((), σ) else gd (arB 0 v2 v3) (gd (inB v0 6) (gd (arB 0 v2 v3) (k32 v0 v2 (v3 + 1) (si σ v2 v3.toNatClampNeg ((σ.1 v2 v3.toNatClampNeg) * (sv 1003 v0.toNatClampNeg))))))
def j_setPowers_x_x_L32 : Nat → Int32 → Nat → Int32 → Sg → Option (Unit × Sg)
  | 0, _, _, _, _ => none
  | n + 1, v0, v2, v3, σ => j_setPowers_x_x_H32 (j_setPowers_x_x_L32 n) v0 v2 v3 σ
def j_setPowers_x_x (v0 : Int32) (v1 : Nat) (v2 : Nat) (σ : Sg) : Option (Unit × Sg) :=
  gd (cpB v1 v2 0 0 5) (gd (arB 0 v2 1) (gd (inB v0 6) (gd (arB 0 v2 1) (gd (arB 0 v2 2) (gd (inB v0 6) (gd (arB 0 v2 2) (j_setPowers_x_x_L32 fu v0 v2 0 (si (si (scp σ v1 v2 0 0 5) v2 1 (((scp σ v1 v2 0 0 5).1 v2 1) - (sv 1001 v0.toNatClampNeg))) v2 2 (((si (scp σ v1 v2 0 0 5) v2 1 (((scp σ v1 v2 0 0 5).1 v2 1) - (sv 1001 v0.toNatClampNeg))).1 v2 2) - (sv 1002 v0.toNatClampNeg))))))))))
def j_measure_4_1_H20 (k20 : Int32 → Sg → Option (Unit × Sg)) (v2 : Int32) (σ : Sg) : Option (Unit × Sg) :=
  if (σ.1 4 0) ≤ v2 then bd (j_run_5_68 (σ.1 4 0) (((1 : Int32) <<< ((σ.1 4 0) &&& 31)) - 1) σ) fun _ σ1 => some ((), σ1) else gd (inB v2 8) (gd (inB v2 8) (gd (inB v2 8) (bd (j_setPowers_x_x (σ.1 21 v2.toNatClampNeg) (23 + v2.toNatClampNeg) (69 + v2.toNatClampNeg) σ) fun _ σ5 => gd (inB v2 8) (bd (j_keyOf_x (69 + v2.toNatClampNeg) σ5) fun r7 σ7 => gd (inB v2 8) (k20 (v2 + 1) (sl σ7 77 v2.toNatClampNeg r7))))))
def j_measure_4_1_L20 : Nat → Int32 → Sg → Option (Unit × Sg)
  | 0, _, _ => none
  | n + 1, v2, σ => j_measure_4_1_H20 (j_measure_4_1_L20 n) v2 σ
def j_measure_4_1 (σ : Sg) : Option (Unit × Sg) :=
  j_measure_4_1_L20 fu 0 (si (si σ 4 0 (σ.1 1 0)) 4 1 (((si σ 4 0 (σ.1 1 0)).1 4 1) + 1))
def j_isKind_s_b15 (s0 : Int32) (σ : Sg) : Option (Int32 × Sg) :=
  gd (nbB s0) (some (s0, σ))
def j_isKind_s_b14 (σ : Sg) : Option (Int32 × Sg) :=
  j_isKind_s_b15 0 σ
def j_isKind_s (v0 : Int32) (σ : Sg) : Option (Int32 × Sg) :=
  if v0 < 0 then j_isKind_s_b14 σ else if 6 ≤ v0 then j_isKind_s_b14 σ else j_isKind_s_b15 1 σ
def j_quantity_0 (v1 : Int32) (σ : Sg) : Option (Int32 × Sg) :=
  bd (j_isKind_s v1 σ) fun r1 σ1 => if r1 = 0 then bd (j_refused_0 (-2) σ1) fun r7 σ7 => some (r7, σ7) else if (σ1.1 1 0) < 8 then bd (j_add_1 v1 σ1) fun _ σ2 => bd (j_forget_3 σ2) fun _ σ3 => bd (j_measure_4_1 σ3) fun _ σ4 => some ((σ4.1 1 0) - 1, σ4) else bd (j_refused_0 (-6) σ1) fun r5 σ5 => some (r5, σ5)
def j_minII_s_b10 (s0 : Int32) (σ : Sg) : Option (Int32 × Sg) :=
  some (s0, σ)
def j_minII_s (v0 : Int32) (v1 : Int32) (σ : Sg) : Option (Int32 × Sg) :=
  if v1 < v0 then j_minII_s_b10 v1 σ else j_minII_s_b10 v0 σ
def j_note_3 (v1 : Int32) (v2 : Int32) (v3 : Int32) (v4 : Int32) (σ : Sg) : Option (Unit × Sg) :=
  gd (inB (σ.1 3 1) 20) (gd (arB 0 (48 + (σ.1 3 1).toNatClampNeg) 0) (gd (arB 0 (48 + (σ.1 3 1).toNatClampNeg) 1) (gd (arB 0 (48 + (σ.1 3 1).toNatClampNeg) 2) (gd (arB 0 (48 + (σ.1 3 1).toNatClampNeg) 3) (bd (j_minII_s (((si (si (si (si (si σ (48 + (σ.1 3 1).toNatClampNeg) 0 v1) (48 + (σ.1 3 1).toNatClampNeg) 1 v2) (48 + (σ.1 3 1).toNatClampNeg) 2 v3) (48 + (σ.1 3 1).toNatClampNeg) 3 v4) 3 1 (irm (((si (si (si (si σ (48 + (σ.1 3 1).toNatClampNeg) 0 v1) (48 + (σ.1 3 1).toNatClampNeg) 1 v2) (48 + (σ.1 3 1).toNatClampNeg) 2 v3) (48 + (σ.1 3 1).toNatClampNeg) 3 v4).1 3 1) + 1) 20)).1 3 2) + 1) 20 (si (si (si (si (si σ (48 + (σ.1 3 1).toNatClampNeg) 0 v1) (48 + (σ.1 3 1).toNatClampNeg) 1 v2) (48 + (σ.1 3 1).toNatClampNeg) 2 v3) (48 + (σ.1 3 1).toNatClampNeg) 3 v4) 3 1 (irm (((si (si (si (si σ (48 + (σ.1 3 1).toNatClampNeg) 0 v1) (48 + (σ.1 3 1).toNatClampNeg) 1 v2) (48 + (σ.1 3 1).toNatClampNeg) 2 v3) (48 + (σ.1 3 1).toNatClampNeg) 3 v4).1 3 1) + 1) 20))) fun r6 σ6 => some ((), si σ6 3 2 r6))))))
def j_isQuantity_0_b20 (s0 : Int32) (σ : Sg) : Option (Int32 × Sg) :=
  gd (nbB s0) (some (s0, σ))
def j_isQuantity_0_b19 (σ : Sg) : Option (Int32 × Sg) :=
  j_isQuantity_0_b20 0 σ
def j_isQuantity_0 (v1 : Int32) (σ : Sg) : Option (Int32 × Sg) :=
  if v1 < 0 then j_isQuantity_0_b19 σ else if (σ.1 1 0) ≤ v1 then j_isQuantity_0_b19 σ else j_isQuantity_0_b20 1 σ
def j_isUnit_s_b14 (s0 : Int32) (σ : Sg) : Option (Int32 × Sg) :=
  gd (nbB s0) (some (s0, σ))
def j_isUnit_s_b13 (σ : Sg) : Option (Int32 × Sg) :=
  j_isUnit_s_b14 0 σ
def j_isUnit_s (v0 : Int32) (σ : Sg) : Option (Int32 × Sg) :=
  if v0 < 0 then j_isUnit_s_b13 σ else if 5 ≤ v0 then j_isUnit_s_b13 σ else j_isUnit_s_b14 1 σ
def j_refusedFar_0 (v1 : Int32) (σ : Sg) : Option (Int32 × Sg) :=
  bd (j_refused_0 v1 σ) fun r1 σ1 => some (1000000000 - r1, σ1)
def j_tell_0_b15 (σ : Sg) : Option (Int32 × Sg) :=
  bd (j_refusedFar_0 (-1) σ) fun r1 σ1 => some (r1, σ1)
def j_tell_0 (v1 : Int32) (v2 : Int32) (v3 : Int32) (σ : Sg) : Option (Int32 × Sg) :=
  bd (j_isQuantity_0 v1 σ) fun r1 σ1 => if r1 = 0 then j_tell_0_b15 σ1 else bd (j_isUnit_s v2 σ1) fun r2 σ2 => if r2 = 0 then j_tell_0_b15 σ2 else if (-9) ≤ v3 then if v3 ≤ 9 then gd (inB v1 8) (gd (arB 0 (23 + v1.toNatClampNeg) v2) (bd (j_note_3 0 v1 v2 (σ2.1 (23 + v1.toNatClampNeg) v2.toNatClampNeg) σ2) fun _ σ5 => gd (inB v1 8) (gd (arB 0 (23 + v1.toNatClampNeg) v2) (bd (j_measure_4_1 (si σ5 (23 + v1.toNatClampNeg) v2.toNatClampNeg v3)) fun _ σ8 => some (σ2.1 (23 + v1.toNatClampNeg) v2.toNatClampNeg, σ8))))) else bd (j_refusedFar_0 (-6) σ2) fun r9 σ9 => some (r9, σ9) else bd (j_refusedFar_0 (-4) σ2) fun r11 σ11 => some (r11, σ11)
def j_turn_0 (v1 : Int32) (v2 : Int32) (σ : Sg) : Option (Int32 × Sg) :=
  bd (j_isQuantity_0 v1 σ) fun r1 σ1 => if r1 = 0 then bd (j_refused_0 (-1) σ1) fun r9 σ9 => some (r9, σ9) else bd (j_isKind_s v2 σ1) fun r2 σ2 => if r2 = 0 then bd (j_refused_0 (-2) σ2) fun r7 σ7 => some (r7, σ7) else gd (inB v1 8) (bd (j_note_3 1 v1 (σ2.1 21 v1.toNatClampNeg) 0 σ2) fun _ σ4 => gd (inB v1 8) (bd (j_measure_4_1 (si σ4 21 v1.toNatClampNeg v2)) fun _ σ6 => some (σ2.1 21 v1.toNatClampNeg, σ6)))
def j_looseSet_4 (σ : Sg) : Option (Int32 × Sg) :=
  some ((((1 : Int32) <<< ((σ.1 4 0) &&& 31)) - 1) &&& ((σ.1 5 4) ^^^ (-1)), σ)
def j_isPure_x_H7 (k7 : Nat → Int32 → Int32 → Sg → Option (Int32 × Sg)) (v1 : Nat) (v2 : Int32) (v3 : Int32) (σ : Sg) : Option (Int32 × Sg) :=
  if v2 ≤ v3 then some (1, σ) else gd (arB 0 v1 v3) (if (σ.1 v1 v3.toNatClampNeg) = 0 then k7 v1 v2 (v3 + 1) σ else some (0, σ))
def j_isPure_x_L7 : Nat → Nat → Int32 → Int32 → Sg → Option (Int32 × Sg)
  | 0, _, _, _, _ => none
  | n + 1, v1, v2, v3, σ => j_isPure_x_H7 (j_isPure_x_L7 n) v1 v2 v3 σ
def j_isPure_x (v0 : Nat) (σ : Sg) : Option (Int32 × Sg) :=
  gd (ckB v0) (j_isPure_x_L7 fu v0 (Int32.ofNat (al v0)) 0 σ)
def j_of_0_b133 (σ : Sg) : Option (Int32 × Sg) :=
  bd (j_refusedFar_0 (-2) σ) fun r1 σ1 => some (r1, σ1)
def j_of_0_b102 (v1 : Int32) (v2 : Int32) (σ : Sg) : Option (Int32 × Sg) :=
  if v2 < 20 then j_of_0_b133 σ else bd (j_isUnit_s (v2 - 20) σ) fun r1 σ1 => if r1 = 0 then j_of_0_b133 σ1 else gd (inB v1 8) (gd (arB 0 (69 + v1.toNatClampNeg) (v2 - 20)) (some (σ1.1 (69 + v1.toNatClampNeg) (v2 - 20).toNatClampNeg, σ1)))
def j_of_0_b70 (s0 : Int32) (σ : Sg) : Option (Int32 × Sg) :=
  some (s0, σ)
def j_of_0 (v1 : Int32) (v2 : Int32) (σ : Sg) : Option (Int32 × Sg) :=
  bd (j_isQuantity_0 v1 σ) fun r1 σ1 => if r1 = 0 then bd (j_refusedFar_0 (-1) σ1) fun r16 σ16 => some (r16, σ16) else if v2 = 0 then gd (inB v1 8) (some (σ1.1 21 v1.toNatClampNeg, σ1)) else if v2 = 1 then bd (j_looseSet_4 σ1) fun r11 σ11 => bd (j_bit_s r11 v1 σ11) fun r12 σ12 => some (r12, σ12) else if v2 = 2 then gd (inB v1 8) (bd (j_isPure_x (69 + v1.toNatClampNeg) σ1) fun r8 σ8 => if r8 = 0 then j_of_0_b70 0 σ8 else j_of_0_b70 1 σ8) else if v2 < 10 then j_of_0_b102 v1 v2 σ1 else bd (j_isUnit_s (v2 - 10) σ1) fun r2 σ2 => if r2 = 0 then j_of_0_b102 v1 v2 σ2 else gd (inB v1 8) (gd (arB 0 (23 + v1.toNatClampNeg) (v2 - 10)) (some (σ2.1 (23 + v1.toNatClampNeg) (v2 - 10).toNatClampNeg, σ2)))
def j_twin_0_b56 (k16 : Int32 → Int32 → Sg → Option (Int32 × Sg)) (v1 : Int32) (v2 : Int32) (σ : Sg) : Option (Int32 × Sg) :=
  k16 v1 (v2 + 1) σ
def j_twin_0_H16 (k16 : Int32 → Int32 → Sg → Option (Int32 × Sg)) (v1 : Int32) (v2 : Int32) (σ : Sg) : Option (Int32 × Sg) :=
  if (σ.1 4 0) ≤ v2 then some ((-9), σ) else if v2 = v1 then j_twin_0_b56 k16 v1 v2 σ else gd (inB v2 8) (gd (inB v1 8) (if (lg_cmp (σ.2 77 v2.toNatClampNeg) (σ.2 77 v1.toNatClampNeg)) = 0 then some (v2, σ) else j_twin_0_b56 k16 v1 v2 σ))
def j_twin_0_L16 : Nat → Int32 → Int32 → Sg → Option (Int32 × Sg)
  | 0, _, _, _ => none
  | n + 1, v1, v2, σ => j_twin_0_H16 (j_twin_0_L16 n) v1 v2 σ
def j_twin_0 (v1 : Int32) (σ : Sg) : Option (Int32 × Sg) :=
  bd (j_isQuantity_0 v1 σ) fun r1 σ1 => if r1 = 0 then bd (j_refused_0 (-1) σ1) fun r2 σ2 => some (r2, σ2) else j_twin_0_L16 fu v1 0 σ1
def j_taken_0_b82 (σ : Sg) : Option (Int32 × Sg) :=
  some ((-16), σ)
def j_taken_0_H41 (k41 : Int32 → Int32 → Int32 → Int32 → Sg → Option (Int32 × Sg)) (v1 : Int32) (v2 : Int32) (v3 : Int32) (v4 : Int32) (σ : Sg) : Option (Int32 × Sg) :=
  if 6 ≤ v4 then j_taken_0_b82 σ else bd (j_isKind_s v3 σ) fun r1 σ1 => if r1 = 0 then j_taken_0_b82 σ1 else if v3 = v2 then gd (inB v1 8) (some (σ1.1 21 v1.toNatClampNeg, σ1)) else gd (inB v3 6) (k41 v1 v2 (sv 1000 v3.toNatClampNeg) (v4 + 1) σ1)
def j_taken_0_L41 : Nat → Int32 → Int32 → Int32 → Int32 → Sg → Option (Int32 × Sg)
  | 0, _, _, _, _, _ => none
  | n + 1, v1, v2, v3, v4, σ => j_taken_0_H41 (j_taken_0_L41 n) v1 v2 v3 v4 σ
def j_taken_0 (v1 : Int32) (v2 : Int32) (σ : Sg) : Option (Int32 × Sg) :=
  bd (j_isQuantity_0 v1 σ) fun r1 σ1 => if r1 = 0 then bd (j_refused_0 (-1) σ1) fun r6 σ6 => some (r6, σ6) else bd (j_isKind_s v2 σ1) fun r2 σ2 => if r2 = 0 then bd (j_refused_0 (-2) σ2) fun r4 σ4 => some (r4, σ4) else gd (inB v1 8) (j_taken_0_L41 fu v1 v2 (σ2.1 21 v1.toNatClampNeg) 0 σ2)
def j_differentDimensions_4_b64 (k4 : Int32 → Int32 → Sg → Option (Int32 × Sg)) (v2 : Int32) (s0 : Int32) (s1 : Int32) (σ : Sg) : Option (Int32 × Sg) :=
  k4 (s0 + s1) (v2 + 1) σ
def j_differentDimensions_4_b46 (k4 : Int32 → Int32 → Sg → Option (Int32 × Sg)) (k17 : Int32 → Int32 → Int32 → Int32 → Sg → Option (Int32 × Sg)) (v1 : Int32) (v2 : Int32) (v4 : Int32) (s0 : Int32) (s1 : Int32) (σ : Sg) : Option (Int32 × Sg) :=
  k17 v1 v2 (s0 + s1) (v4 + 1) σ
def j_differentDimensions_4_H17 (k4 : Int32 → Int32 → Sg → Option (Int32 × Sg)) (k17 : Int32 → Int32 → Int32 → Int32 → Sg → Option (Int32 × Sg)) (v1 : Int32) (v2 : Int32) (v3 : Int32) (v4 : Int32) (σ : Sg) : Option (Int32 × Sg) :=
  if v2 ≤ v4 then if v3 = 0 then j_differentDimensions_4_b64 k4 v2 v1 1 σ else j_differentDimensions_4_b64 k4 v2 v1 0 σ else gd (inB v4 8) (gd (inB v2 8) (if (lg_cmp (σ.2 77 v4.toNatClampNeg) (σ.2 77 v2.toNatClampNeg)) = 0 then j_differentDimensions_4_b46 k4 k17 v1 v2 v4 v3 1 σ else j_differentDimensions_4_b46 k4 k17 v1 v2 v4 v3 0 σ))
def j_differentDimensions_4_L17 (k4 : Int32 → Int32 → Sg → Option (Int32 × Sg)) : Nat → Int32 → Int32 → Int32 → Int32 → Sg → Option (Int32 × Sg)
  | 0, _, _, _, _, _ => none
  | n + 1, v1, v2, v3, v4, σ => j_differentDimensions_4_H17 k4 (j_differentDimensions_4_L17 k4 n) v1 v2 v3 v4 σ
def j_differentDimensions_4_H4 (k4 : Int32 → Int32 → Sg → Option (Int32 × Sg)) (v1 : Int32) (v2 : Int32) (σ : Sg) : Option (Int32 × Sg) :=
  if (σ.1 4 0) ≤ v2 then some (v1, σ) else j_differentDimensions_4_L17 k4 fu v1 v2 0 0 σ
def j_differentDimensions_4_L4 : Nat → Int32 → Int32 → Sg → Option (Int32 × Sg)
  | 0, _, _, _ => none
  | n + 1, v1, v2, σ => j_differentDimensions_4_H4 (j_differentDimensions_4_L4 n) v1 v2 σ
def j_differentDimensions_4 (σ : Sg) : Option (Int32 × Sg) :=
  j_differentDimensions_4_L4 fu 0 0 σ
def j_rank_0_b73 (s0 : Int32) (σ : Sg) : Option (Int32 × Sg) :=
  some (s0, σ)
def j_rank_0 (v1 : Int32) (σ : Sg) : Option (Int32 × Sg) :=
  if v1 = 0 then some (σ.1 5 3, σ) else if v1 = 1 then some ((σ.1 4 0) - (σ.1 5 3), σ) else if v1 = 2 then bd (j_looseSet_4 σ) fun r4 σ4 => some (r4, σ4) else if v1 = 3 then bd (j_differentDimensions_4 σ) fun r2 σ2 => j_rank_0_b73 r2 σ2 else bd (j_refused_0 (-2) σ) fun r1 σ1 => j_rank_0_b73 r1 σ1
def j_fillAII_17_H5 (k5 : Int32 → Int32 → Int32 → Sg → Option (Unit × Sg)) (v1 : Int32) (v2 : Int32) (v3 : Int32) (σ : Sg) : Option (Unit × Sg) :=
  if v3 ≤ v2 then some ((), σ) else gd (inB v2 8) (k5 v1 (v2 + 1) v3 (si σ 17 v2.toNatClampNeg v1))
def j_fillAII_17_L5 : Nat → Int32 → Int32 → Int32 → Sg → Option (Unit × Sg)
  | 0, _, _, _, _ => none
  | n + 1, v1, v2, v3, σ => j_fillAII_17_H5 (j_fillAII_17_L5 n) v1 v2 v3 σ
def j_fillAII_17 (v1 : Int32) (σ : Sg) : Option (Unit × Sg) :=
  j_fillAII_17_L5 fu v1 0 8 σ
def j_absJ_s_b12 (s0 : Int64) (σ : Sg) : Option (Int64 × Sg) :=
  some (s0, σ)
def j_absJ_s (v0 : Int64) (σ : Sg) : Option (Int64 × Sg) :=
  if 0 ≤ (lg_cmp v0 0) then j_absJ_s_b12 v0 σ else j_absJ_s_b12 (-v0) σ
def j_greatestDivisor_s_b51 (v4 : Int64) (σ : Sg) : Option (Int64 × Sg) :=
  some (v4, σ)
def j_greatestDivisor_s_H15 (k15 : Int64 → Int64 → Int32 → Sg → Option (Int64 × Sg)) (v4 : Int64) (v6 : Int64) (v8 : Int32) (σ : Sg) : Option (Int64 × Sg) :=
  if 200 ≤ v8 then j_greatestDivisor_s_b51 v4 σ else if (lg_cmp v6 0) = 0 then j_greatestDivisor_s_b51 v4 σ else gd (neBL v6) (k15 v6 (lrm v4 v6) (v8 + 1) σ)
def j_greatestDivisor_s_L15 : Nat → Int64 → Int64 → Int32 → Sg → Option (Int64 × Sg)
  | 0, _, _, _, _ => none
  | n + 1, v4, v6, v8, σ => j_greatestDivisor_s_H15 (j_greatestDivisor_s_L15 n) v4 v6 v8 σ
def j_greatestDivisor_s (v0 : Int64) (v2 : Int64) (σ : Sg) : Option (Int64 × Sg) :=
  bd (j_absJ_s v0 σ) fun r1 σ1 => bd (j_absJ_s v2 σ1) fun r2 σ2 => j_greatestDivisor_s_L15 fu r1 r2 0 σ2
def j_relation_5_17_b146 (k102 : Int32 → Int64 → Int32 → Sg → Option (Unit × Sg)) (v1 : Int32) (v3 : Int64) (v5 : Int32) (σ : Sg) : Option (Unit × Sg) :=
  k102 v1 v3 (v5 + 1) σ
def j_relation_5_17_H102 (k102 : Int32 → Int64 → Int32 → Sg → Option (Unit × Sg)) (v1 : Int32) (v3 : Int64) (v5 : Int32) (σ : Sg) : Option (Unit × Sg) :=
  if (σ.1 5 2) ≤ v5 then some ((), σ) else bd (j_bit_s (σ.1 5 4) v5 σ) fun r1 σ1 => if r1 = 1 then gd (inB v5 8) (gd (inB (σ1.1 84 v5.toNatClampNeg) 5) (gd (arB 1 (79 + (σ1.1 84 v5.toNatClampNeg).toNatClampNeg) v1) (gd (neBL v3) (gd (inB v5 8) (j_relation_5_17_b146 k102 v1 v3 v5 (si σ1 17 v5.toNatClampNeg (((-(σ1.2 (79 + (σ1.1 84 v5.toNatClampNeg).toNatClampNeg) v1.toNatClampNeg)) / v3).toInt32))))))) else j_relation_5_17_b146 k102 v1 v3 v5 σ1
def j_relation_5_17_L102 : Nat → Int32 → Int64 → Int32 → Sg → Option (Unit × Sg)
  | 0, _, _, _, _ => none
  | n + 1, v1, v3, v5, σ => j_relation_5_17_H102 (j_relation_5_17_L102 n) v1 v3 v5 σ
def j_relation_5_17_b88 (v1 : Int32) (s0 : Int64) (σ : Sg) : Option (Unit × Sg) :=
  gd (neBL s0) (gd (inB v1 8) (j_relation_5_17_L102 fu v1 s0 0 (si σ 17 v1.toNatClampNeg (((σ.2 5 5) / s0).toInt32))))
def j_relation_5_17_b54 (k13 : Int32 → Int64 → Int32 → Sg → Option (Unit × Sg)) (v1 : Int32) (v3 : Int64) (v5 : Int32) (σ : Sg) : Option (Unit × Sg) :=
  k13 v1 v3 (v5 + 1) σ
def j_relation_5_17_H13 (k13 : Int32 → Int64 → Int32 → Sg → Option (Unit × Sg)) (v1 : Int32) (v3 : Int64) (v5 : Int32) (σ : Sg) : Option (Unit × Sg) :=
  if (σ.1 5 2) ≤ v5 then if (lg_cmp v3 0) = 0 then some ((), σ) else if 0 ≤ (lg_cmp (σ.2 5 5) 0) then bd (j_absJ_s v3 σ) fun r1 σ1 => j_relation_5_17_b88 v1 r1 σ1 else bd (j_absJ_s v3 σ) fun r2 σ2 => j_relation_5_17_b88 v1 (-r2) σ2 else bd (j_bit_s (σ.1 5 4) v5 σ) fun r5 σ5 => if r5 = 1 then gd (inB v5 8) (gd (inB (σ5.1 84 v5.toNatClampNeg) 5) (gd (arB 1 (79 + (σ5.1 84 v5.toNatClampNeg).toNatClampNeg) v1) (bd (j_greatestDivisor_s v3 (σ5.2 (79 + (σ5.1 84 v5.toNatClampNeg).toNatClampNeg) v1.toNatClampNeg) σ5) fun r9 σ9 => j_relation_5_17_b54 k13 v1 r9 v5 σ9))) else j_relation_5_17_b54 k13 v1 v3 v5 σ5
def j_relation_5_17_L13 : Nat → Int32 → Int64 → Int32 → Sg → Option (Unit × Sg)
  | 0, _, _, _, _ => none
  | n + 1, v1, v3, v5, σ => j_relation_5_17_H13 (j_relation_5_17_L13 n) v1 v3 v5 σ
def j_relation_5_17 (v1 : Int32) (σ : Sg) : Option (Unit × Sg) :=
  bd (j_fillAII_17 0 σ) fun _ σ1 => j_relation_5_17_L13 fu v1 (σ1.2 5 5) 0 σ1
def j_looseAt_4_b39 (k10 : Int32 → Int32 → Int32 → Sg → Option (Int32 × Sg)) (v2 : Int32) (v3 : Int32) (v4 : Int32) (σ : Sg) : Option (Int32 × Sg) :=
  k10 v2 v3 (v4 + 1) σ
def j_looseAt_4_H10 (k10 : Int32 → Int32 → Int32 → Sg → Option (Int32 × Sg)) (v2 : Int32) (v3 : Int32) (v4 : Int32) (σ : Sg) : Option (Int32 × Sg) :=
  if (σ.1 4 0) ≤ v4 then some (0, σ) else bd (j_bit_s v2 v4 σ) fun r1 σ1 => if r1 = 1 then if v3 = 0 then some (v4, σ1) else j_looseAt_4_b39 k10 v2 (v3 + (-1)) v4 σ1 else j_looseAt_4_b39 k10 v2 v3 v4 σ1
def j_looseAt_4_L10 : Nat → Int32 → Int32 → Int32 → Sg → Option (Int32 × Sg)
  | 0, _, _, _, _ => none
  | n + 1, v2, v3, v4, σ => j_looseAt_4_H10 (j_looseAt_4_L10 n) v2 v3 v4 σ
def j_looseAt_4 (v1 : Int32) (σ : Sg) : Option (Int32 × Sg) :=
  bd (j_looseSet_4 σ) fun r1 σ1 => j_looseAt_4_L10 fu r1 v1 0 σ1
def j_isGroup_0_b31 (s0 : Int32) (σ : Sg) : Option (Int32 × Sg) :=
  gd (nbB s0) (some (s0, σ))
def j_isGroup_0_b30 (σ : Sg) : Option (Int32 × Sg) :=
  j_isGroup_0_b31 0 σ
def j_isGroup_0 (v1 : Int32) (σ : Sg) : Option (Int32 × Sg) :=
  if v1 < 0 then j_isGroup_0_b30 σ else if ((σ.1 4 0) - (σ.1 5 3)) ≤ v1 then j_isGroup_0_b30 σ else j_isGroup_0_b31 1 σ
def j_group_0_b16 (σ : Sg) : Option (Int32 × Sg) :=
  bd (j_refusedFar_0 (-1) σ) fun r1 σ1 => some (r1, σ1)
def j_group_0 (v1 : Int32) (v2 : Int32) (σ : Sg) : Option (Int32 × Sg) :=
  bd (j_isGroup_0 v1 σ) fun r1 σ1 => if r1 = 0 then j_group_0_b16 σ1 else bd (j_isQuantity_0 v2 σ1) fun r2 σ2 => if r2 = 0 then j_group_0_b16 σ2 else bd (j_looseAt_4 v1 σ2) fun r3 σ3 => bd (j_relation_5_17 r3 σ3) fun _ σ4 => gd (inB v2 8) (some (σ4.1 17 v2.toNatClampNeg, σ4))
def j_absI_s_b10 (s0 : Int32) (σ : Sg) : Option (Int32 × Sg) :=
  some (s0, σ)
def j_absI_s (v0 : Int32) (σ : Sg) : Option (Int32 × Sg) :=
  if 0 ≤ v0 then j_absI_s_b10 v0 σ else j_absI_s_b10 (-v0) σ
def j_sizeOfDimension_4_18_H15 (k4 : Int32 → Int32 → Sg → Option (Int32 × Sg)) (k15 : Int32 → Int32 → Int32 → Int32 → Sg → Option (Int32 × Sg)) (v2 : Int32) (v3 : Int32) (v4 : Int32) (v5 : Int32) (σ : Sg) : Option (Int32 × Sg) :=
  if (σ.1 4 0) ≤ v5 then bd (j_absI_s v4 σ) fun r1 σ1 => k4 (v2 + r1) (v3 + 1) σ1 else gd (inB v5 8) (gd (inB v5 8) (gd (arB 0 (69 + v5.toNatClampNeg) v3) (k15 v2 v3 (v4 + ((σ.1 18 v5.toNatClampNeg) * (σ.1 (69 + v5.toNatClampNeg) v3.toNatClampNeg))) (v5 + 1) σ)))
def j_sizeOfDimension_4_18_L15 (k4 : Int32 → Int32 → Sg → Option (Int32 × Sg)) : Nat → Int32 → Int32 → Int32 → Int32 → Sg → Option (Int32 × Sg)
  | 0, _, _, _, _, _ => none
  | n + 1, v2, v3, v4, v5, σ => j_sizeOfDimension_4_18_H15 k4 (j_sizeOfDimension_4_18_L15 k4 n) v2 v3 v4 v5 σ
def j_sizeOfDimension_4_18_H4 (k4 : Int32 → Int32 → Sg → Option (Int32 × Sg)) (v2 : Int32) (v3 : Int32) (σ : Sg) : Option (Int32 × Sg) :=
  if 5 ≤ v3 then some (v2, σ) else j_sizeOfDimension_4_18_L15 k4 fu v2 v3 0 0 σ
def j_sizeOfDimension_4_18_L4 : Nat → Int32 → Int32 → Sg → Option (Int32 × Sg)
  | 0, _, _, _ => none
  | n + 1, v2, v3, σ => j_sizeOfDimension_4_18_H4 (j_sizeOfDimension_4_18_L4 n) v2 v3 σ
def j_sizeOfDimension_4_18 (σ : Sg) : Option (Int32 × Sg) :=
  j_sizeOfDimension_4_18_L4 fu 0 0 σ
def j_isPureProduct_4_18_b13 (s0 : Int32) (σ : Sg) : Option (Int32 × Sg) :=
  gd (nbB s0) (some (s0, σ))
def j_isPureProduct_4_18 (σ : Sg) : Option (Int32 × Sg) :=
  bd (j_sizeOfDimension_4_18 σ) fun r1 σ1 => if r1 = 0 then j_isPureProduct_4_18_b13 1 σ1 else j_isPureProduct_4_18_b13 0 σ1
def j_isList_s_b14 (s0 : Int32) (σ : Sg) : Option (Int32 × Sg) :=
  gd (nbB s0) (some (s0, σ))
def j_isList_s_b13 (σ : Sg) : Option (Int32 × Sg) :=
  j_isList_s_b14 0 σ
def j_isList_s (v0 : Int32) (σ : Sg) : Option (Int32 × Sg) :=
  if v0 < 0 then j_isList_s_b13 σ else if 3 ≤ v0 then j_isList_s_b13 σ else j_isList_s_b14 1 σ
def j_isMissing_0_b14 (s0 : Int32) (σ : Sg) : Option (Int32 × Sg) :=
  gd (nbB s0) (some (s0, σ))
def j_isMissing_0 (v1 : Int32) (σ : Sg) : Option (Int32 × Sg) :=
  gd (inB v1 3) (if 0 ≤ (σ.1 16 v1.toNatClampNeg) then j_isMissing_0_b14 0 σ else j_isMissing_0_b14 1 σ)
def j_isPlace_0_b19 (s0 : Int32) (σ : Sg) : Option (Int32 × Sg) :=
  gd (nbB s0) (some (s0, σ))
def j_isPlace_0_b18 (σ : Sg) : Option (Int32 × Sg) :=
  j_isPlace_0_b19 0 σ
def j_isPlace_0 (v1 : Int32) (v2 : Int32) (σ : Sg) : Option (Int32 × Sg) :=
  if v2 < 0 then j_isPlace_0_b18 σ else gd (inB v1 3) (if (σ.1 16 v1.toNatClampNeg) ≤ v2 then j_isPlace_0_b18 σ else j_isPlace_0_b19 1 σ)
def j_takeNumbers_0_18_b54 (σ : Sg) : Option (Int32 × Sg) :=
  some (0, σ)
def j_takeNumbers_0_18_b35 (k3 : Int32 → Int32 → Int32 → Sg → Option (Int32 × Sg)) (v1 : Int32) (v2 : Int32) (v4 : Int32) (s1 : Int32) (s2 : Int32) (σ : Sg) : Option (Int32 × Sg) :=
  gd (inB s1 8) (gd (inB v4 8) (if ((si σ 18 s1.toNatClampNeg s2).1 18 v4.toNatClampNeg) < (-99) then j_takeNumbers_0_18_b54 (si σ 18 s1.toNatClampNeg s2) else gd (inB v4 8) (if ((si σ 18 s1.toNatClampNeg s2).1 18 v4.toNatClampNeg) ≤ 99 then k3 v1 v2 (v4 + 1) (si σ 18 s1.toNatClampNeg s2) else j_takeNumbers_0_18_b54 (si σ 18 s1.toNatClampNeg s2))))
def j_takeNumbers_0_18_H3 (k3 : Int32 → Int32 → Int32 → Sg → Option (Int32 × Sg)) (v1 : Int32) (v2 : Int32) (v4 : Int32) (σ : Sg) : Option (Int32 × Sg) :=
  if v2 ≤ v4 then some (1, σ) else bd (j_isPlace_0 v1 v4 σ) fun r1 σ1 => if r1 = 0 then j_takeNumbers_0_18_b35 k3 v1 v2 v4 v4 0 σ1 else gd (inB v1 3) (gd (arB 0 (13 + v1.toNatClampNeg) v4) (j_takeNumbers_0_18_b35 k3 v1 v2 v4 v4 (σ1.1 (13 + v1.toNatClampNeg) v4.toNatClampNeg) σ1))
def j_takeNumbers_0_18_L3 : Nat → Int32 → Int32 → Int32 → Sg → Option (Int32 × Sg)
  | 0, _, _, _, _ => none
  | n + 1, v1, v2, v4, σ => j_takeNumbers_0_18_H3 (j_takeNumbers_0_18_L3 n) v1 v2 v4 σ
def j_takeNumbers_0_18 (v1 : Int32) (v2 : Int32) (σ : Sg) : Option (Int32 × Sg) :=
  j_takeNumbers_0_18_L3 fu v1 v2 0 σ
def j_pure_0_b69 (s0 : Int32) (σ : Sg) : Option (Int32 × Sg) :=
  some (s0, σ)
def j_pure_0 (v1 : Int32) (σ : Sg) : Option (Int32 × Sg) :=
  bd (j_isList_s v1 σ) fun r1 σ1 => if r1 = 0 then bd (j_refused_0 (-1) σ1) fun r9 σ9 => some (r9, σ9) else bd (j_isMissing_0 v1 σ1) fun r2 σ2 => if r2 = 0 then bd (j_takeNumbers_0_18 v1 (σ2.1 1 0) σ2) fun r3 σ3 => if r3 = 0 then bd (j_refused_0 (-3) σ3) fun r6 σ6 => some (r6, σ6) else bd (j_isPureProduct_4_18 σ3) fun r4 σ4 => if r4 = 0 then j_pure_0_b69 0 σ4 else j_pure_0_b69 1 σ4 else some ((-11), σ2)
def j_isPart_s_b14 (s0 : Int32) (σ : Sg) : Option (Int32 × Sg) :=
  gd (nbB s0) (some (s0, σ))
def j_isPart_s_b9 (σ : Sg) : Option (Int32 × Sg) :=
  j_isPart_s_b14 1 σ
def j_isPart_s (v0 : Int32) (σ : Sg) : Option (Int32 × Sg) :=
  if v0 = 0 then j_isPart_s_b9 σ else if v0 = 1 then j_isPart_s_b9 σ else j_isPart_s_b14 0 σ
def j_partOf_s_b28 (v5 : Int64) (s0 : Int64) (σ : Sg) : Option (Int64 × Sg) :=
  gd (neBL v5) (some (s0 / v5, σ))
def j_partOf_s (v0 : Int64) (v2 : Int64) (v4 : Int32) (σ : Sg) : Option (Int64 × Sg) :=
  bd (j_greatestDivisor_s v0 v2 σ) fun r1 σ1 => if (lg_cmp r1 0) = 0 then some (v4.toInt64, σ1) else if v4 = 0 then j_partOf_s_b28 r1 v0 σ1 else j_partOf_s_b28 r1 v2 σ1
def j_refusedFarLong_0 (v1 : Int32) (σ : Sg) : Option (Int64 × Sg) :=
  bd (j_refused_0 v1 σ) fun r1 σ1 => some (4000000000000000000 - r1.toInt64, σ1)
def j_cover_0_b15 (σ : Sg) : Option (Int64 × Sg) :=
  bd (j_refusedFarLong_0 (-1) σ) fun r1 σ1 => some (r1, σ1)
def j_cover_0_b83 (σ : Sg) : Option (Int64 × Sg) :=
  bd (j_refusedFarLong_0 (-3) σ) fun r1 σ1 => some (r1, σ1)
def j_cover_0 (v1 : Int32) (v2 : Int32) (v3 : Int32) (σ : Sg) : Option (Int64 × Sg) :=
  bd (j_isList_s v1 σ) fun r1 σ1 => if r1 = 0 then j_cover_0_b15 σ1 else bd (j_isGroup_0 v2 σ1) fun r2 σ2 => if r2 = 0 then j_cover_0_b15 σ2 else bd (j_isPart_s v3 σ2) fun r3 σ3 => if r3 = 0 then bd (j_refusedFarLong_0 (-2) σ3) fun r16 σ16 => some (r16, σ16) else bd (j_isMissing_0 v1 σ3) fun r4 σ4 => if r4 = 0 then bd (j_takeNumbers_0_18 v1 (σ4.1 1 0) σ4) fun r5 σ5 => if r5 = 0 then j_cover_0_b83 σ5 else bd (j_isPureProduct_4_18 σ5) fun r6 σ6 => if r6 = 0 then j_cover_0_b83 σ6 else bd (j_looseAt_4 v2 σ6) fun r7 σ7 => bd (j_relation_5_17 r7 σ7) fun _ σ8 => gd (inB r7 8) (gd (inB r7 8) (bd (j_partOf_s ((σ8.1 18 r7.toNatClampNeg).toInt64) ((σ8.1 17 r7.toNatClampNeg).toInt64) v3 σ8) fun r11 σ11 => some (r11, σ11))) else bd (j_refusedFarLong_0 (-11) σ4) fun r14 σ14 => some (r14, σ14)
def j_pureInBox_77_b16 (rs : Int32 → Int32 → Int64 → Sg → Option (Int32 × Sg)) (s0 : Int32) (σ : Sg) : Option (Int32 × Sg) :=
  some (s0, σ)
def j_pureInBox_77_H (rs : Int32 → Int32 → Int64 → Sg → Option (Int32 × Sg)) (v1 : Int32) (v2 : Int32) (v3 : Int64) (σ : Sg) : Option (Int32 × Sg) :=
  if v2 < v1 then gd (inB v2 8) (bd (rs v1 (v2 + 1) (v3 - (σ.2 77 v2.toNatClampNeg)) σ) fun r2 σ2 => bd (rs v1 (v2 + 1) v3 σ2) fun r3 σ3 => gd (inB v2 8) (bd (rs v1 (v2 + 1) (v3 + (σ3.2 77 v2.toNatClampNeg)) σ3) fun r5 σ5 => some ((r2 + r3) + r5, σ5))) else if (lg_cmp v3 0) = 0 then j_pureInBox_77_b16 rs 1 σ else j_pureInBox_77_b16 rs 0 σ
def j_pureInBox_77 : Nat → Int32 → Int32 → Int64 → Sg → Option (Int32 × Sg)
  | 0, _, _, _, _ => none
  | n + 1, v1, v2, v3, σ => j_pureInBox_77_H (j_pureInBox_77 n) v1 v2 v3 σ
def j_countBox_8 (σ : Sg) : Option (Int32 × Sg) :=
  bd (j_pureInBox_77 12 (σ.1 4 0) 0 0 σ) fun r1 σ1 => some (r1, σ1)
def j_box_0 (σ : Sg) : Option (Int32 × Sg) :=
  bd (j_countBox_8 σ) fun r1 σ1 => some (r1, σ1)
def j_fillAII_93_H5 (k5 : Int32 → Int32 → Int32 → Sg → Option (Unit × Sg)) (v1 : Int32) (v2 : Int32) (v3 : Int32) (σ : Sg) : Option (Unit × Sg) :=
  if v3 ≤ v2 then some ((), σ) else gd (inB v2 8) (k5 v1 (v2 + 1) v3 (si σ 93 v2.toNatClampNeg v1))
def j_fillAII_93_L5 : Nat → Int32 → Int32 → Int32 → Sg → Option (Unit × Sg)
  | 0, _, _, _, _ => none
  | n + 1, v1, v2, v3, σ => j_fillAII_93_H5 (j_fillAII_93_L5 n) v1 v2 v3 σ
def j_fillAII_93 (v1 : Int32) (σ : Sg) : Option (Unit × Sg) :=
  j_fillAII_93_L5 fu v1 0 8 σ
def j_hasPure_77_93_H50 (rs : Int32 → Int32 → Int32 → Int64 → Sg → Option (Int32 × Sg)) (k50 : Int32 → Int32 → Int32 → Int64 → Int32 → Int32 → Sg → Option (Int32 × Sg)) (v1 : Int32) (v3 : Int32) (v4 : Int32) (v5 : Int64) (v7 : Int32) (v8 : Int32) (σ : Sg) : Option (Int32 × Sg) :=
  if v4 < v8 then gd (inB v3 8) (some (0, si σ 93 v3.toNatClampNeg 0)) else gd (inB v3 8) (bd (j_absI_s v8 (si σ 93 v3.toNatClampNeg v8)) fun r3 σ3 => gd (inB v3 8) (bd (rs v1 (v3 + 1) (v4 - r3) (v5 + (v8.toInt64 * (σ3.2 77 v3.toNatClampNeg))) σ3) fun r5 σ5 => if r5 = 0 then k50 v1 v3 v4 v5 v7 (v8 + v7) σ5 else some (1, σ5)))
def j_hasPure_77_93_L50 (rs : Int32 → Int32 → Int32 → Int64 → Sg → Option (Int32 × Sg)) : Nat → Int32 → Int32 → Int32 → Int64 → Int32 → Int32 → Sg → Option (Int32 × Sg)
  | 0, _, _, _, _, _, _, _ => none
  | n + 1, v1, v3, v4, v5, v7, v8, σ => j_hasPure_77_93_H50 rs (j_hasPure_77_93_L50 rs n) v1 v3 v4 v5 v7 v8 σ
def j_hasPure_77_93_b43 (rs : Int32 → Int32 → Int32 → Int64 → Sg → Option (Int32 × Sg)) (v1 : Int32) (v3 : Int32) (v4 : Int32) (v5 : Int64) (s0 : Int32) (σ : Sg) : Option (Int32 × Sg) :=
  j_hasPure_77_93_L50 rs fu v1 v3 v4 v5 s0 (-v4) σ
def j_hasPure_77_93_b42 (rs : Int32 → Int32 → Int32 → Int64 → Sg → Option (Int32 × Sg)) (v1 : Int32) (v3 : Int32) (v4 : Int32) (v5 : Int64) (σ : Sg) : Option (Int32 × Sg) :=
  j_hasPure_77_93_b43 rs v1 v3 v4 v5 1 σ
def j_hasPure_77_93_b22 (rs : Int32 → Int32 → Int32 → Int64 → Sg → Option (Int32 × Sg)) (s0 : Int32) (σ : Sg) : Option (Int32 × Sg) :=
  gd (nbB s0) (some (s0, σ))
def j_hasPure_77_93_b21 (rs : Int32 → Int32 → Int32 → Int64 → Sg → Option (Int32 × Sg)) (σ : Sg) : Option (Int32 × Sg) :=
  j_hasPure_77_93_b22 rs 0 σ
def j_hasPure_77_93_H (rs : Int32 → Int32 → Int32 → Int64 → Sg → Option (Int32 × Sg)) (v1 : Int32) (v3 : Int32) (v4 : Int32) (v5 : Int64) (σ : Sg) : Option (Int32 × Sg) :=
  if v3 < v1 then if v3 = (v1 - 1) then if v4 ≤ 0 then j_hasPure_77_93_b42 rs v1 v3 v4 v5 σ else j_hasPure_77_93_b43 rs v1 v3 v4 v5 (2 * v4) σ else j_hasPure_77_93_b42 rs v1 v3 v4 v5 σ else if v4 = 0 then if (lg_cmp v5 0) = 0 then j_hasPure_77_93_b22 rs 1 σ else j_hasPure_77_93_b21 rs σ else j_hasPure_77_93_b21 rs σ
def j_hasPure_77_93 : Nat → Int32 → Int32 → Int32 → Int64 → Sg → Option (Int32 × Sg)
  | 0, _, _, _, _, _ => none
  | n + 1, v1, v3, v4, v5, σ => j_hasPure_77_93_H (j_hasPure_77_93 n) v1 v3 v4 v5 σ
def j_findLeast_8_b102 (σ : Sg) : Option (Unit × Sg) :=
  some ((), σ)
def j_findLeast_8_b96 (k41 : Int32 → Sg → Option (Unit × Sg)) (v1 : Int32) (σ : Sg) : Option (Unit × Sg) :=
  k41 (v1 + 1) σ
def j_findLeast_8_H41 (k41 : Int32 → Sg → Option (Unit × Sg)) (v1 : Int32) (σ : Sg) : Option (Unit × Sg) :=
  if 6 < v1 then j_findLeast_8_b102 σ else if (σ.1 8 2) = 0 then bd (j_looseSet_4 σ) fun r1 σ1 => if r1 = 0 then j_findLeast_8_b102 σ1 else bd (j_hasPure_77_93 12 (σ1.1 4 0) 0 v1 0 σ1) fun r2 σ2 => if r2 = 0 then j_findLeast_8_b96 k41 v1 σ2 else j_findLeast_8_b96 k41 v1 (si σ2 8 2 v1) else j_findLeast_8_b102 σ
def j_findLeast_8_L41 : Nat → Int32 → Sg → Option (Unit × Sg)
  | 0, _, _ => none
  | n + 1, v1, σ => j_findLeast_8_H41 (j_findLeast_8_L41 n) v1 σ
def j_findLeast_8 (σ : Sg) : Option (Unit × Sg) :=
  if (σ.1 8 3) = (σ.1 4 1) then some ((), σ) else bd (j_fillAII_93 0 (si (si σ 8 3 (σ.1 4 1)) 8 2 0)) fun _ σ1 => j_findLeast_8_L41 fu 1 σ1
def j_least_0_b50 (s0 : Int32) (σ : Sg) : Option (Int32 × Sg) :=
  some (s0, σ)
def j_least_0_b19 (v1 : Int32) (σ : Sg) : Option (Int32 × Sg) :=
  bd (j_findLeast_8 σ) fun _ σ1 => if v1 = (-1) then j_least_0_b50 (σ1.1 8 2) σ1 else gd (inB v1 8) (j_least_0_b50 (σ1.1 93 v1.toNatClampNeg) σ1)
def j_least_0 (v1 : Int32) (σ : Sg) : Option (Int32 × Sg) :=
  if v1 = (-1) then j_least_0_b19 v1 σ else bd (j_isQuantity_0 v1 σ) fun r1 σ1 => if r1 = 0 then bd (j_refusedFar_0 (-1) σ1) fun r2 σ2 => some (r2, σ2) else j_least_0_b19 v1 σ1
def j_bitCount_s (v0 : Int32) (σ : Sg) : Option (Int32 × Sg) :=
  some ((((((((v0 - ((iush v0 1) &&& 1431655765)) &&& 858993459) + ((iush (v0 - ((iush v0 1) &&& 1431655765)) 2) &&& 858993459)) + (iush (((v0 - ((iush v0 1) &&& 1431655765)) &&& 858993459) + ((iush (v0 - ((iush v0 1) &&& 1431655765)) 2) &&& 858993459)) 4)) &&& 252645135) + (iush (((((v0 - ((iush v0 1) &&& 1431655765)) &&& 858993459) + ((iush (v0 - ((iush v0 1) &&& 1431655765)) 2) &&& 858993459)) + (iush (((v0 - ((iush v0 1) &&& 1431655765)) &&& 858993459) + ((iush (v0 - ((iush v0 1) &&& 1431655765)) 2) &&& 858993459)) 4)) &&& 252645135) 8)) + (iush ((((((v0 - ((iush v0 1) &&& 1431655765)) &&& 858993459) + ((iush (v0 - ((iush v0 1) &&& 1431655765)) 2) &&& 858993459)) + (iush (((v0 - ((iush v0 1) &&& 1431655765)) &&& 858993459) + ((iush (v0 - ((iush v0 1) &&& 1431655765)) 2) &&& 858993459)) 4)) &&& 252645135) + (iush (((((v0 - ((iush v0 1) &&& 1431655765)) &&& 858993459) + ((iush (v0 - ((iush v0 1) &&& 1431655765)) 2) &&& 858993459)) + (iush (((v0 - ((iush v0 1) &&& 1431655765)) &&& 858993459) + ((iush (v0 - ((iush v0 1) &&& 1431655765)) 2) &&& 858993459)) 4)) &&& 252645135) 8)) 16)) &&& 63, σ)
def j_bringUp_7_H25 (k25 : Int32 → Int32 → Sg → Option (Int32 × Sg)) (v2 : Int32) (v3 : Int32) (σ : Sg) : Option (Int32 × Sg) :=
  if (σ.1 7 2) ≤ v3 then some (1, σ) else gd (inB v2 5) (gd (arB 1 (87 + v2.toNatClampNeg) v3) (gd (inB v2 5) (gd (inB (σ.1 7 3) 5) (gd (arB 1 (87 + (σ.1 7 3).toNatClampNeg) v3) (gd (arB 1 (87 + v2.toNatClampNeg) v3) (gd (inB ((sl σ (87 + v2.toNatClampNeg) v3.toNatClampNeg (σ.2 (87 + (σ.1 7 3).toNatClampNeg) v3.toNatClampNeg)).1 7 3) 5) (gd (arB 1 (87 + ((sl σ (87 + v2.toNatClampNeg) v3.toNatClampNeg (σ.2 (87 + (σ.1 7 3).toNatClampNeg) v3.toNatClampNeg)).1 7 3).toNatClampNeg) v3) (k25 v2 (v3 + 1) (sl (sl σ (87 + v2.toNatClampNeg) v3.toNatClampNeg (σ.2 (87 + (σ.1 7 3).toNatClampNeg) v3.toNatClampNeg)) (87 + ((sl σ (87 + v2.toNatClampNeg) v3.toNatClampNeg (σ.2 (87 + (σ.1 7 3).toNatClampNeg) v3.toNatClampNeg)).1 7 3).toNatClampNeg) v3.toNatClampNeg (σ.2 (87 + v2.toNatClampNeg) v3.toNatClampNeg))))))))))
def j_bringUp_7_L25 : Nat → Int32 → Int32 → Sg → Option (Int32 × Sg)
  | 0, _, _, _ => none
  | n + 1, v2, v3, σ => j_bringUp_7_H25 (j_bringUp_7_L25 n) v2 v3 σ
def j_bringUp_7_H5 (k5 : Int32 → Int32 → Sg → Option (Int32 × Sg)) (v1 : Int32) (v2 : Int32) (σ : Sg) : Option (Int32 × Sg) :=
  if 5 ≤ v2 then some (0, σ) else gd (inB v2 5) (gd (arB 1 (87 + v2.toNatClampNeg) v1) (if (lg_cmp (σ.2 (87 + v2.toNatClampNeg) v1.toNatClampNeg) 0) = 0 then k5 v1 (v2 + 1) σ else j_bringUp_7_L25 fu v2 0 σ))
def j_bringUp_7_L5 : Nat → Int32 → Int32 → Sg → Option (Int32 × Sg)
  | 0, _, _, _ => none
  | n + 1, v1, v2, σ => j_bringUp_7_H5 (j_bringUp_7_L5 n) v1 v2 σ
def j_bringUp_7 (v1 : Int32) (σ : Sg) : Option (Int32 × Sg) :=
  j_bringUp_7_L5 fu v1 (σ.1 7 3) σ
def j_clearOthers_7_b115 (k15 : Int32 → Int64 → Int32 → Sg → Option (Unit × Sg)) (v1 : Int32) (v2 : Int64) (v4 : Int32) (σ : Sg) : Option (Unit × Sg) :=
  k15 v1 v2 (v4 + 1) σ
def j_clearOthers_7_H35 (k15 : Int32 → Int64 → Int32 → Sg → Option (Unit × Sg)) (k35 : Int32 → Int64 → Int32 → Int64 → Int32 → Sg → Option (Unit × Sg)) (v1 : Int32) (v2 : Int64) (v4 : Int32) (v5 : Int64) (v7 : Int32) (σ : Sg) : Option (Unit × Sg) :=
  if (σ.1 7 2) ≤ v7 then j_clearOthers_7_b115 k15 v1 v2 v4 σ else if v4 = (σ.1 7 3) then j_clearOthers_7_b115 k15 v1 v2 v4 σ else if (lg_cmp (σ.2 7 5) 0) = 0 then j_clearOthers_7_b115 k15 v1 v2 v4 σ else gd (inB v4 5) (gd (arB 1 (87 + v4.toNatClampNeg) v7) (gd (inB v4 5) (gd (inB (σ.1 7 3) 5) (gd (arB 1 (87 + (σ.1 7 3).toNatClampNeg) v7) (gd (neBL (σ.2 7 5)) (gd (arB 1 (87 + v4.toNatClampNeg) v7) (k35 v1 v2 v4 v5 (v7 + 1) (sl σ (87 + v4.toNatClampNeg) v7.toNatClampNeg ((((σ.2 (87 + v4.toNatClampNeg) v7.toNatClampNeg) * v2) - (v5 * (σ.2 (87 + (σ.1 7 3).toNatClampNeg) v7.toNatClampNeg))) / (σ.2 7 5))))))))))
def j_clearOthers_7_L35 (k15 : Int32 → Int64 → Int32 → Sg → Option (Unit × Sg)) : Nat → Int32 → Int64 → Int32 → Int64 → Int32 → Sg → Option (Unit × Sg)
  | 0, _, _, _, _, _, _ => none
  | n + 1, v1, v2, v4, v5, v7, σ => j_clearOthers_7_H35 k15 (j_clearOthers_7_L35 k15 n) v1 v2 v4 v5 v7 σ
def j_clearOthers_7_H15 (k15 : Int32 → Int64 → Int32 → Sg → Option (Unit × Sg)) (v1 : Int32) (v2 : Int64) (v4 : Int32) (σ : Sg) : Option (Unit × Sg) :=
  if 5 ≤ v4 then some ((), sl σ 7 5 v2) else gd (inB v4 5) (gd (arB 1 (87 + v4.toNatClampNeg) v1) (j_clearOthers_7_L35 k15 fu v1 v2 v4 (σ.2 (87 + v4.toNatClampNeg) v1.toNatClampNeg) 0 σ))
def j_clearOthers_7_L15 : Nat → Int32 → Int64 → Int32 → Sg → Option (Unit × Sg)
  | 0, _, _, _, _ => none
  | n + 1, v1, v2, v4, σ => j_clearOthers_7_H15 (j_clearOthers_7_L15 n) v1 v2 v4 σ
def j_clearOthers_7 (v1 : Int32) (σ : Sg) : Option (Unit × Sg) :=
  gd (inB (σ.1 7 3) 5) (gd (arB 1 (87 + (σ.1 7 3).toNatClampNeg) v1) (j_clearOthers_7_L15 fu v1 (σ.2 (87 + (σ.1 7 3).toNatClampNeg) v1.toNatClampNeg) 0 σ))
def j_run_7_68_b142 (k74 : Int32 → Int32 → Sg → Option (Unit × Sg)) (v3 : Int32) (v4 : Int32) (σ : Sg) : Option (Unit × Sg) :=
  k74 v3 (v4 + 1) σ
def j_run_7_68_H74 (k74 : Int32 → Int32 → Sg → Option (Unit × Sg)) (v3 : Int32) (v4 : Int32) (σ : Sg) : Option (Unit × Sg) :=
  if (σ.1 7 2) ≤ v4 then some ((), σ) else bd (j_bit_s v3 v4 σ) fun r1 σ1 => if r1 = 1 then bd (j_bringUp_7 v4 σ1) fun r2 σ2 => if r2 = 0 then j_run_7_68_b142 k74 v3 v4 σ2 else bd (j_clearOthers_7 v4 σ2) fun _ σ3 => gd (inB v4 8) (j_run_7_68_b142 k74 v3 v4 (si (si (si σ3 92 v4.toNatClampNeg (σ3.1 7 3)) 7 4 (((si σ3 92 v4.toNatClampNeg (σ3.1 7 3)).1 7 4) ||| ((1 : Int32) <<< (v4 &&& 31)))) 7 3 (((si (si σ3 92 v4.toNatClampNeg (σ3.1 7 3)) 7 4 (((si σ3 92 v4.toNatClampNeg (σ3.1 7 3)).1 7 4) ||| ((1 : Int32) <<< (v4 &&& 31)))).1 7 3) + 1))) else j_run_7_68_b142 k74 v3 v4 σ1
def j_run_7_68_L74 : Nat → Int32 → Int32 → Sg → Option (Unit × Sg)
  | 0, _, _, _ => none
  | n + 1, v3, v4, σ => j_run_7_68_H74 (j_run_7_68_L74 n) v3 v4 σ
def j_run_7_68_H32 (k23 : Int32 → Int32 → Sg → Option (Unit × Sg)) (k32 : Int32 → Int32 → Int32 → Sg → Option (Unit × Sg)) (v3 : Int32) (v4 : Int32) (v5 : Int32) (σ : Sg) : Option (Unit × Sg) :=
  if (σ.1 7 2) ≤ v5 then k23 v3 (v4 + 1) σ else gd (inB v4 5) (gd (inB v5 8) (gd (arB 0 (69 + v5.toNatClampNeg) v4) (gd (arB 1 (87 + v4.toNatClampNeg) v5) (k32 v3 v4 (v5 + 1) (sl σ (87 + v4.toNatClampNeg) v5.toNatClampNeg ((σ.1 (69 + v5.toNatClampNeg) v4.toNatClampNeg).toInt64))))))
def j_run_7_68_L32 (k23 : Int32 → Int32 → Sg → Option (Unit × Sg)) : Nat → Int32 → Int32 → Int32 → Sg → Option (Unit × Sg)
  | 0, _, _, _, _ => none
  | n + 1, v3, v4, v5, σ => j_run_7_68_H32 k23 (j_run_7_68_L32 k23 n) v3 v4 v5 σ
def j_run_7_68_H23 (k23 : Int32 → Int32 → Sg → Option (Unit × Sg)) (v3 : Int32) (v4 : Int32) (σ : Sg) : Option (Unit × Sg) :=
  if 5 ≤ v4 then j_run_7_68_L74 fu v3 0 σ else j_run_7_68_L32 k23 fu v3 v4 0 σ
def j_run_7_68_L23 : Nat → Int32 → Int32 → Sg → Option (Unit × Sg)
  | 0, _, _, _ => none
  | n + 1, v3, v4, σ => j_run_7_68_H23 (j_run_7_68_L23 n) v3 v4 σ
def j_run_7_68 (v2 : Int32) (v3 : Int32) (σ : Sg) : Option (Unit × Sg) :=
  j_run_7_68_L23 fu v3 0 (sl (si (si (si σ 7 2 v2) 7 3 0) 7 4 0) 7 5 1)
def j_choose_6_b57 (s0 : Int32) (σ : Sg) : Option (Int32 × Sg) :=
  gd (nbB s0) (some (s0, σ))
def j_choose_6 (v1 : Int32) (σ : Sg) : Option (Int32 × Sg) :=
  bd (j_bitCount_s v1 σ) fun r1 σ1 => if r1 = (σ1.1 5 3) then bd (j_run_7_68 (σ1.1 4 0) v1 σ1) fun _ σ2 => if (σ2.1 7 4) = v1 then j_choose_6_b57 1 σ2 else j_choose_6_b57 0 σ2 else some (0, σ1)
def j_isSet_0_b22 (s0 : Int32) (σ : Sg) : Option (Int32 × Sg) :=
  gd (nbB s0) (some (s0, σ))
def j_isSet_0_b21 (σ : Sg) : Option (Int32 × Sg) :=
  j_isSet_0_b22 0 σ
def j_isSet_0 (v1 : Int32) (σ : Sg) : Option (Int32 × Sg) :=
  if v1 < 0 then j_isSet_0_b21 σ else if ((1 : Int32) <<< ((σ.1 1 0) &&& 31)) ≤ v1 then j_isSet_0_b21 σ else j_isSet_0_b22 1 σ
def j_may_0_b30 (s0 : Int32) (σ : Sg) : Option (Int32 × Sg) :=
  some (s0, σ)
def j_may_0 (v1 : Int32) (σ : Sg) : Option (Int32 × Sg) :=
  bd (j_isSet_0 v1 σ) fun r1 σ1 => if r1 = 0 then bd (j_refused_0 (-1) σ1) fun r4 σ4 => some (r4, σ4) else bd (j_choose_6 v1 σ1) fun r2 σ2 => if r2 = 0 then j_may_0_b30 0 σ2 else j_may_0_b30 1 σ2
def j_relation_7_17_b146 (k102 : Int32 → Int64 → Int32 → Sg → Option (Unit × Sg)) (v1 : Int32) (v3 : Int64) (v5 : Int32) (σ : Sg) : Option (Unit × Sg) :=
  k102 v1 v3 (v5 + 1) σ
def j_relation_7_17_H102 (k102 : Int32 → Int64 → Int32 → Sg → Option (Unit × Sg)) (v1 : Int32) (v3 : Int64) (v5 : Int32) (σ : Sg) : Option (Unit × Sg) :=
  if (σ.1 7 2) ≤ v5 then some ((), σ) else bd (j_bit_s (σ.1 7 4) v5 σ) fun r1 σ1 => if r1 = 1 then gd (inB v5 8) (gd (inB (σ1.1 92 v5.toNatClampNeg) 5) (gd (arB 1 (87 + (σ1.1 92 v5.toNatClampNeg).toNatClampNeg) v1) (gd (neBL v3) (gd (inB v5 8) (j_relation_7_17_b146 k102 v1 v3 v5 (si σ1 17 v5.toNatClampNeg (((-(σ1.2 (87 + (σ1.1 92 v5.toNatClampNeg).toNatClampNeg) v1.toNatClampNeg)) / v3).toInt32))))))) else j_relation_7_17_b146 k102 v1 v3 v5 σ1
def j_relation_7_17_L102 : Nat → Int32 → Int64 → Int32 → Sg → Option (Unit × Sg)
  | 0, _, _, _, _ => none
  | n + 1, v1, v3, v5, σ => j_relation_7_17_H102 (j_relation_7_17_L102 n) v1 v3 v5 σ
def j_relation_7_17_b88 (v1 : Int32) (s0 : Int64) (σ : Sg) : Option (Unit × Sg) :=
  gd (neBL s0) (gd (inB v1 8) (j_relation_7_17_L102 fu v1 s0 0 (si σ 17 v1.toNatClampNeg (((σ.2 7 5) / s0).toInt32))))
def j_relation_7_17_b54 (k13 : Int32 → Int64 → Int32 → Sg → Option (Unit × Sg)) (v1 : Int32) (v3 : Int64) (v5 : Int32) (σ : Sg) : Option (Unit × Sg) :=
  k13 v1 v3 (v5 + 1) σ
def j_relation_7_17_H13 (k13 : Int32 → Int64 → Int32 → Sg → Option (Unit × Sg)) (v1 : Int32) (v3 : Int64) (v5 : Int32) (σ : Sg) : Option (Unit × Sg) :=
  if (σ.1 7 2) ≤ v5 then if (lg_cmp v3 0) = 0 then some ((), σ) else if 0 ≤ (lg_cmp (σ.2 7 5) 0) then bd (j_absJ_s v3 σ) fun r1 σ1 => j_relation_7_17_b88 v1 r1 σ1 else bd (j_absJ_s v3 σ) fun r2 σ2 => j_relation_7_17_b88 v1 (-r2) σ2 else bd (j_bit_s (σ.1 7 4) v5 σ) fun r5 σ5 => if r5 = 1 then gd (inB v5 8) (gd (inB (σ5.1 92 v5.toNatClampNeg) 5) (gd (arB 1 (87 + (σ5.1 92 v5.toNatClampNeg).toNatClampNeg) v1) (bd (j_greatestDivisor_s v3 (σ5.2 (87 + (σ5.1 92 v5.toNatClampNeg).toNatClampNeg) v1.toNatClampNeg) σ5) fun r9 σ9 => j_relation_7_17_b54 k13 v1 r9 v5 σ9))) else j_relation_7_17_b54 k13 v1 v3 v5 σ5
def j_relation_7_17_L13 : Nat → Int32 → Int64 → Int32 → Sg → Option (Unit × Sg)
  | 0, _, _, _, _ => none
  | n + 1, v1, v3, v5, σ => j_relation_7_17_H13 (j_relation_7_17_L13 n) v1 v3 v5 σ
def j_relation_7_17 (v1 : Int32) (σ : Sg) : Option (Unit × Sg) :=
  bd (j_fillAII_17 0 σ) fun _ σ1 => j_relation_7_17_L13 fu v1 (σ1.2 7 5) 0 σ1
def j_isOutside_0_b29 (s0 : Int32) (σ : Sg) : Option (Int32 × Sg) :=
  gd (nbB s0) (some (s0, σ))
def j_isOutside_0_b28 (σ : Sg) : Option (Int32 × Sg) :=
  j_isOutside_0_b29 0 σ
def j_isOutside_0 (v1 : Int32) (v2 : Int32) (σ : Sg) : Option (Int32 × Sg) :=
  bd (j_isSet_0 v1 σ) fun r1 σ1 => if r1 = 0 then j_isOutside_0_b28 σ1 else bd (j_isQuantity_0 v2 σ1) fun r2 σ2 => if r2 = 0 then j_isOutside_0_b28 σ2 else bd (j_bit_s v1 v2 σ2) fun r3 σ3 => if r3 = 0 then j_isOutside_0_b29 1 σ3 else j_isOutside_0_b28 σ3
def j_rest_0_b17 (σ : Sg) : Option (Int32 × Sg) :=
  bd (j_refusedFar_0 (-1) σ) fun r1 σ1 => some (r1, σ1)
def j_rest_0 (v1 : Int32) (v2 : Int32) (v3 : Int32) (σ : Sg) : Option (Int32 × Sg) :=
  bd (j_isOutside_0 v1 v2 σ) fun r1 σ1 => if r1 = 0 then j_rest_0_b17 σ1 else bd (j_isQuantity_0 v3 σ1) fun r2 σ2 => if r2 = 0 then j_rest_0_b17 σ2 else bd (j_choose_6 v1 σ2) fun r3 σ3 => if r3 = 0 then bd (j_refusedFar_0 (-3) σ3) fun r6 σ6 => some (r6, σ6) else bd (j_relation_7_17 v2 σ3) fun _ σ4 => gd (inB v3 8) (some (σ4.1 17 v3.toNatClampNeg, σ4))
def j_fillAII_85_H5 (k5 : Int32 → Int32 → Int32 → Sg → Option (Unit × Sg)) (v1 : Int32) (v2 : Int32) (v3 : Int32) (σ : Sg) : Option (Unit × Sg) :=
  if v3 ≤ v2 then some ((), σ) else gd (inB v2 8) (k5 v1 (v2 + 1) v3 (si σ 85 v2.toNatClampNeg v1))
def j_fillAII_85_L5 : Nat → Int32 → Int32 → Int32 → Sg → Option (Unit × Sg)
  | 0, _, _, _, _ => none
  | n + 1, v1, v2, v3, σ => j_fillAII_85_H5 (j_fillAII_85_L5 n) v1 v2 v3 σ
def j_fillAII_85 (v1 : Int32) (σ : Sg) : Option (Unit × Sg) :=
  j_fillAII_85_L5 fu v1 0 8 σ
def j_relation_7_85_b146 (k102 : Int32 → Int64 → Int32 → Sg → Option (Unit × Sg)) (v1 : Int32) (v3 : Int64) (v5 : Int32) (σ : Sg) : Option (Unit × Sg) :=
  k102 v1 v3 (v5 + 1) σ
def j_relation_7_85_H102 (k102 : Int32 → Int64 → Int32 → Sg → Option (Unit × Sg)) (v1 : Int32) (v3 : Int64) (v5 : Int32) (σ : Sg) : Option (Unit × Sg) :=
  if (σ.1 7 2) ≤ v5 then some ((), σ) else bd (j_bit_s (σ.1 7 4) v5 σ) fun r1 σ1 => if r1 = 1 then gd (inB v5 8) (gd (inB (σ1.1 92 v5.toNatClampNeg) 5) (gd (arB 1 (87 + (σ1.1 92 v5.toNatClampNeg).toNatClampNeg) v1) (gd (neBL v3) (gd (inB v5 8) (j_relation_7_85_b146 k102 v1 v3 v5 (si σ1 85 v5.toNatClampNeg (((-(σ1.2 (87 + (σ1.1 92 v5.toNatClampNeg).toNatClampNeg) v1.toNatClampNeg)) / v3).toInt32))))))) else j_relation_7_85_b146 k102 v1 v3 v5 σ1
def j_relation_7_85_L102 : Nat → Int32 → Int64 → Int32 → Sg → Option (Unit × Sg)
  | 0, _, _, _, _ => none
  | n + 1, v1, v3, v5, σ => j_relation_7_85_H102 (j_relation_7_85_L102 n) v1 v3 v5 σ
def j_relation_7_85_b88 (v1 : Int32) (s0 : Int64) (σ : Sg) : Option (Unit × Sg) :=
  gd (neBL s0) (gd (inB v1 8) (j_relation_7_85_L102 fu v1 s0 0 (si σ 85 v1.toNatClampNeg (((σ.2 7 5) / s0).toInt32))))
def j_relation_7_85_b54 (k13 : Int32 → Int64 → Int32 → Sg → Option (Unit × Sg)) (v1 : Int32) (v3 : Int64) (v5 : Int32) (σ : Sg) : Option (Unit × Sg) :=
  k13 v1 v3 (v5 + 1) σ
def j_relation_7_85_H13 (k13 : Int32 → Int64 → Int32 → Sg → Option (Unit × Sg)) (v1 : Int32) (v3 : Int64) (v5 : Int32) (σ : Sg) : Option (Unit × Sg) :=
  if (σ.1 7 2) ≤ v5 then if (lg_cmp v3 0) = 0 then some ((), σ) else if 0 ≤ (lg_cmp (σ.2 7 5) 0) then bd (j_absJ_s v3 σ) fun r1 σ1 => j_relation_7_85_b88 v1 r1 σ1 else bd (j_absJ_s v3 σ) fun r2 σ2 => j_relation_7_85_b88 v1 (-r2) σ2 else bd (j_bit_s (σ.1 7 4) v5 σ) fun r5 σ5 => if r5 = 1 then gd (inB v5 8) (gd (inB (σ5.1 92 v5.toNatClampNeg) 5) (gd (arB 1 (87 + (σ5.1 92 v5.toNatClampNeg).toNatClampNeg) v1) (bd (j_greatestDivisor_s v3 (σ5.2 (87 + (σ5.1 92 v5.toNatClampNeg).toNatClampNeg) v1.toNatClampNeg) σ5) fun r9 σ9 => j_relation_7_85_b54 k13 v1 r9 v5 σ9))) else j_relation_7_85_b54 k13 v1 v3 v5 σ5
def j_relation_7_85_L13 : Nat → Int32 → Int64 → Int32 → Sg → Option (Unit × Sg)
  | 0, _, _, _, _ => none
  | n + 1, v1, v3, v5, σ => j_relation_7_85_H13 (j_relation_7_85_L13 n) v1 v3 v5 σ
def j_relation_7_85 (v1 : Int32) (σ : Sg) : Option (Unit × Sg) :=
  bd (j_fillAII_85 0 σ) fun _ σ1 => j_relation_7_85_L13 fu v1 (σ1.2 7 5) 0 σ1
def j_sizesOfRests_6_b84 (k4 : Int64 → Int32 → Sg → Option (Int64 × Sg)) (v1 : Int64) (v3 : Int32) (σ : Sg) : Option (Int64 × Sg) :=
  k4 v1 (v3 + 1) σ
def j_sizesOfRests_6_H55 (k4 : Int64 → Int32 → Sg → Option (Int64 × Sg)) (k55 : Int64 → Int32 → Int32 → Int32 → Sg → Option (Int64 × Sg)) (v1 : Int64) (v3 : Int32) (v5 : Int32) (v6 : Int32) (σ : Sg) : Option (Int64 × Sg) :=
  if v5 ≤ v6 then j_sizesOfRests_6_b84 k4 v1 v3 σ else gd (inB v6 8) (bd (j_absI_s (σ.1 85 v6.toNatClampNeg) σ) fun r2 σ2 => k55 (v1 + r2.toInt64) v3 v5 (v6 + 1) σ2)
def j_sizesOfRests_6_L55 (k4 : Int64 → Int32 → Sg → Option (Int64 × Sg)) : Nat → Int64 → Int32 → Int32 → Int32 → Sg → Option (Int64 × Sg)
  | 0, _, _, _, _, _ => none
  | n + 1, v1, v3, v5, v6, σ => j_sizesOfRests_6_H55 k4 (j_sizesOfRests_6_L55 k4 n) v1 v3 v5 v6 σ
def j_sizesOfRests_6_H4 (k4 : Int64 → Int32 → Sg → Option (Int64 × Sg)) (v1 : Int64) (v3 : Int32) (σ : Sg) : Option (Int64 × Sg) :=
  if (σ.1 4 0) ≤ v3 then some (v1, σ) else bd (j_bit_s (σ.1 7 4) v3 σ) fun r1 σ1 => if r1 = 0 then bd (j_relation_7_85 v3 σ1) fun _ σ2 => j_sizesOfRests_6_L55 k4 fu v1 v3 8 0 σ2 else j_sizesOfRests_6_b84 k4 v1 v3 σ1
def j_sizesOfRests_6_L4 : Nat → Int64 → Int32 → Sg → Option (Int64 × Sg)
  | 0, _, _, _ => none
  | n + 1, v1, v3, σ => j_sizesOfRests_6_H4 (j_sizesOfRests_6_L4 n) v1 v3 σ
def j_sizesOfRests_6 (σ : Sg) : Option (Int64 × Sg) :=
  j_sizesOfRests_6_L4 fu 0 0 σ
def j_lookAtOne_6_b43 (σ : Sg) : Option (Unit × Sg) :=
  some ((), si σ 6 4 ((σ.1 6 4) + 1))
def j_lookAtOne_6_b33 (v1 : Int32) (v2 : Int64) (σ : Sg) : Option (Unit × Sg) :=
  j_lookAtOne_6_b43 (sl (si σ 6 7 v1) 6 8 v2)
def j_lookAtOne_6_b17 (v1 : Int32) (v2 : Int64) (σ : Sg) : Option (Unit × Sg) :=
  if (σ.1 6 4) = 0 then j_lookAtOne_6_b33 v1 v2 σ else if 0 ≤ (lg_cmp v2 (σ.2 6 8)) then j_lookAtOne_6_b43 σ else j_lookAtOne_6_b33 v1 v2 σ
def j_lookAtOne_6 (v1 : Int32) (σ : Sg) : Option (Unit × Sg) :=
  bd (j_sizesOfRests_6 σ) fun r1 σ1 => if (σ1.1 6 4) = 0 then j_lookAtOne_6_b17 v1 r1 (si σ1 6 6 v1) else j_lookAtOne_6_b17 v1 r1 σ1
def j_lookAtAll_6_b91 (k38 : Int32 → Sg → Option (Unit × Sg)) (v1 : Int32) (σ : Sg) : Option (Unit × Sg) :=
  k38 (v1 + 1) σ
def j_lookAtAll_6_H38 (k38 : Int32 → Sg → Option (Unit × Sg)) (v1 : Int32) (σ : Sg) : Option (Unit × Sg) :=
  if ((1 : Int32) <<< ((σ.1 4 0) &&& 31)) ≤ v1 then some ((), σ) else bd (j_bitCount_s v1 σ) fun r1 σ1 => if r1 = (σ1.1 5 3) then bd (j_choose_6 v1 (si σ1 6 5 ((σ1.1 6 5) + 1))) fun r2 σ2 => if r2 = 0 then j_lookAtAll_6_b91 k38 v1 σ2 else bd (j_lookAtOne_6 v1 σ2) fun _ σ3 => j_lookAtAll_6_b91 k38 v1 σ3 else j_lookAtAll_6_b91 k38 v1 σ1
def j_lookAtAll_6_L38 : Nat → Int32 → Sg → Option (Unit × Sg)
  | 0, _, _ => none
  | n + 1, v1, σ => j_lookAtAll_6_H38 (j_lookAtAll_6_L38 n) v1 σ
def j_lookAtAll_6 (σ : Sg) : Option (Unit × Sg) :=
  if (σ.1 6 3) = (σ.1 4 1) then some ((), σ) else j_lookAtAll_6_L38 fu 0 (si (si (si σ 6 3 (σ.1 4 1)) 6 4 0) 6 5 0)
def j_sets_0_b9 (σ : Sg) : Option (Int32 × Sg) :=
  bd (j_refused_0 (-2) σ) fun r1 σ1 => some (r1, σ1)
def j_sets_0_b57 (s0 : Int32) (σ : Sg) : Option (Int32 × Sg) :=
  some (s0, σ)
def j_sets_0 (v1 : Int32) (σ : Sg) : Option (Int32 × Sg) :=
  if v1 < 0 then j_sets_0_b9 σ else if v1 ≤ 2 then bd (j_lookAtAll_6 σ) fun _ σ1 => if v1 = 0 then some (σ1.1 6 4, σ1) else if v1 = 1 then j_sets_0_b57 (σ1.1 6 6) σ1 else j_sets_0_b57 (σ1.1 6 7) σ1 else j_sets_0_b9 σ
def j_sizes_0 (v1 : Int32) (σ : Sg) : Option (Int64 × Sg) :=
  bd (j_isSet_0 v1 σ) fun r1 σ1 => if r1 = 0 then bd (j_refusedFarLong_0 (-1) σ1) fun r6 σ6 => some (r6, σ6) else bd (j_choose_6 v1 σ1) fun r2 σ2 => if r2 = 0 then bd (j_refusedFarLong_0 (-3) σ2) fun r4 σ4 => some (r4, σ4) else bd (j_sizesOfRests_6 σ2) fun r3 σ3 => some (r3, σ3)
def j_odds_0 (v1 : Int32) (σ : Sg) : Option (Int64 × Sg) :=
  bd (j_isPart_s v1 σ) fun r1 σ1 => if r1 = 0 then bd (j_refusedFarLong_0 (-2) σ1) fun r4 σ4 => some (r4, σ4) else bd (j_lookAtAll_6 σ1) fun _ σ2 => bd (j_partOf_s ((σ2.1 6 4).toInt64) ((σ2.1 6 5).toInt64) v1 σ2) fun r3 σ3 => some (r3, σ3)
def j_scale_0_b27 (σ : Sg) : Option (Int32 × Sg) :=
  bd (j_refused_0 (-4) σ) fun r1 σ1 => some (r1, σ1)
def j_scale_0_b50 (σ : Sg) : Option (Int32 × Sg) :=
  bd (j_refused_0 (-6) σ) fun r1 σ1 => some (r1, σ1)
def j_scale_0_b111 (s1 : Int32) (s2 : Int32) (σ : Sg) : Option (Int32 × Sg) :=
  gd (inB s1 8) (some (1, si σ 32 s1.toNatClampNeg s2))
def j_scale_0_b57 (v1 : Int32) (v2 : Int32) (v3 : Int32) (σ : Sg) : Option (Int32 × Sg) :=
  gd (inB v1 8) (gd (inB v1 8) (bd (j_note_3 2 v1 (σ.1 31 v1.toNatClampNeg) (σ.1 32 v1.toNatClampNeg) σ) fun _ σ3 => gd (inB v1 8) (if v2 = 0 then j_scale_0_b111 v1 1 (si σ3 31 v1.toNatClampNeg v2) else j_scale_0_b111 v1 v3 (si σ3 31 v1.toNatClampNeg v2))))
def j_scale_0_b34 (v1 : Int32) (v2 : Int32) (v3 : Int32) (σ : Sg) : Option (Int32 × Sg) :=
  if 99 < v2 then j_scale_0_b50 σ else if v2 ≤ 0 then j_scale_0_b57 v1 v2 v3 σ else if v3 ≤ 99 then j_scale_0_b57 v1 v2 v3 σ else j_scale_0_b50 σ
def j_scale_0 (v1 : Int32) (v2 : Int32) (v3 : Int32) (σ : Sg) : Option (Int32 × Sg) :=
  bd (j_isQuantity_0 v1 σ) fun r1 σ1 => if r1 = 0 then bd (j_refused_0 (-1) σ1) fun r5 σ5 => some (r5, σ5) else if v2 < 0 then j_scale_0_b27 σ1 else if v2 ≤ 0 then j_scale_0_b34 v1 v2 v3 σ1 else if 1 ≤ v3 then j_scale_0_b34 v1 v2 v3 σ1 else j_scale_0_b27 σ1
def j_hasScale_1_b14 (s0 : Int32) (σ : Sg) : Option (Int32 × Sg) :=
  gd (nbB s0) (some (s0, σ))
def j_hasScale_1 (v1 : Int32) (σ : Sg) : Option (Int32 × Sg) :=
  gd (inB v1 8) (if (σ.1 31 v1.toNatClampNeg) = 0 then j_hasScale_1_b14 0 σ else j_hasScale_1_b14 1 σ)
def j_scaled_0 (v1 : Int32) (v2 : Int32) (σ : Sg) : Option (Int32 × Sg) :=
  bd (j_isQuantity_0 v1 σ) fun r1 σ1 => if r1 = 0 then bd (j_refused_0 (-1) σ1) fun r10 σ10 => some (r10, σ10) else bd (j_isPart_s v2 σ1) fun r2 σ2 => if r2 = 0 then bd (j_refused_0 (-2) σ2) fun r8 σ8 => some (r8, σ8) else bd (j_hasScale_1 v1 σ2) fun r3 σ3 => if r3 = 0 then some ((-9), σ3) else gd (inB v1 8) (gd (inB v1 8) (bd (j_partOf_s ((σ3.1 31 v1.toNatClampNeg).toInt64) ((σ3.1 32 v1.toNatClampNeg).toInt64) v2 σ3) fun r6 σ6 => some (r6.toInt32, σ6)))
def j_scaledSet_1_b28 (k4 : Int32 → Int32 → Sg → Option (Int32 × Sg)) (v2 : Int32) (s0 : Int32) (s1 : Int32) (σ : Sg) : Option (Int32 × Sg) :=
  k4 (s0 ||| s1) (v2 + 1) σ
def j_scaledSet_1_H4 (k4 : Int32 → Int32 → Sg → Option (Int32 × Sg)) (v1 : Int32) (v2 : Int32) (σ : Sg) : Option (Int32 × Sg) :=
  if (σ.1 1 0) ≤ v2 then some (v1, σ) else bd (j_hasScale_1 v2 σ) fun r1 σ1 => if r1 = 0 then j_scaledSet_1_b28 k4 v2 v1 0 σ1 else j_scaledSet_1_b28 k4 v2 v1 ((1 : Int32) <<< (v2 &&& 31)) σ1
def j_scaledSet_1_L4 : Nat → Int32 → Int32 → Sg → Option (Int32 × Sg)
  | 0, _, _, _ => none
  | n + 1, v1, v2, σ => j_scaledSet_1_H4 (j_scaledSet_1_L4 n) v1 v2 σ
def j_scaledSet_1 (σ : Sg) : Option (Int32 × Sg) :=
  j_scaledSet_1_L4 fu 0 0 σ
def j_haveScales_1_b16 (s0 : Int32) (σ : Sg) : Option (Int32 × Sg) :=
  gd (nbB s0) (some (s0, σ))
def j_haveScales_1 (v1 : Int32) (σ : Sg) : Option (Int32 × Sg) :=
  bd (j_scaledSet_1 σ) fun r1 σ1 => if (v1 &&& (r1 ^^^ (-1))) = 0 then j_haveScales_1_b16 1 σ1 else j_haveScales_1_b16 0 σ1
def j_times_s_b42 (v2 : Int32) (σ : Sg) : Option (Int32 × Sg) :=
  some (v2, σ)
def j_times_s_H7 (k7 : Int32 → Int32 → Int32 → Int32 → Sg → Option (Int32 × Sg)) (v0 : Int32) (v2 : Int32) (v3 : Int32) (v4 : Int32) (σ : Sg) : Option (Int32 × Sg) :=
  if 99 ≤ v4 then j_times_s_b42 v2 σ else if v3 ≤ 0 then j_times_s_b42 v2 σ else if v0 ≤ 1 then j_times_s_b42 v2 σ else gd (neB v0) (if (irm v3 v0) = 0 then gd (neB v0) (k7 v0 (v2 + 1) (v3 / v0) (v4 + 1) σ) else j_times_s_b42 v2 σ)
def j_times_s_L7 : Nat → Int32 → Int32 → Int32 → Int32 → Sg → Option (Int32 × Sg)
  | 0, _, _, _, _, _ => none
  | n + 1, v0, v2, v3, v4, σ => j_times_s_H7 (j_times_s_L7 n) v0 v2 v3 v4 σ
def j_times_s (v0 : Int32) (v1 : Int32) (σ : Sg) : Option (Int32 × Sg) :=
  j_times_s_L7 fu v0 0 v1 0 σ
def j_together_1_17_b67 (k6 : Int32 → Int32 → Int64 → Int32 → Sg → Option (Int64 × Sg)) (v2 : Int32) (v3 : Int32) (v4 : Int64) (v6 : Int32) (σ : Sg) : Option (Int64 × Sg) :=
  k6 v2 v3 v4 (v6 + 1) σ
def j_together_1_17_H6 (k6 : Int32 → Int32 → Int64 → Int32 → Sg → Option (Int64 × Sg)) (v2 : Int32) (v3 : Int32) (v4 : Int64) (v6 : Int32) (σ : Sg) : Option (Int64 × Sg) :=
  if (σ.1 1 0) ≤ v6 then some (v4, σ) else bd (j_bit_s v2 v6 σ) fun r1 σ1 => if r1 = 1 then gd (inB v6 8) (if (σ1.1 17 v6.toNatClampNeg) = 0 then j_together_1_17_b67 k6 v2 v3 v4 v6 σ1 else gd (inB v6 8) (gd (inB v6 8) (bd (j_times_s v3 (σ1.1 31 v6.toNatClampNeg) σ1) fun r5 σ5 => gd (inB v6 8) (bd (j_times_s v3 (σ5.1 32 v6.toNatClampNeg) σ5) fun r7 σ7 => j_together_1_17_b67 k6 v2 v3 (v4 + (((σ1.1 17 v6.toNatClampNeg).toInt64) * ((r5 - r7).toInt64))) v6 σ7)))) else j_together_1_17_b67 k6 v2 v3 v4 v6 σ1
def j_together_1_17_L6 : Nat → Int32 → Int32 → Int64 → Int32 → Sg → Option (Int64 × Sg)
  | 0, _, _, _, _, _ => none
  | n + 1, v2, v3, v4, v6, σ => j_together_1_17_H6 (j_together_1_17_L6 n) v2 v3 v4 v6 σ
def j_together_1_17 (v2 : Int32) (v3 : Int32) (σ : Sg) : Option (Int64 × Sg) :=
  j_together_1_17_L6 fu v2 v3 0 0 σ
def j_isUnbalanced_0_17_H23 (k23 : Int32 → Int32 → Int32 → Sg → Option (Int32 × Sg)) (v2 : Int32) (v4 : Int32) (v5 : Int32) (σ : Sg) : Option (Int32 × Sg) :=
  if v4 ≤ v5 then some (0, σ) else gd (inB v5 25) (bd (j_together_1_17 v2 (sv 1004 v5.toNatClampNeg) σ) fun r2 σ2 => if (lg_cmp r2 0) = 0 then k23 v2 v4 (v5 + 1) σ2 else some (1, σ2))
def j_isUnbalanced_0_17_L23 : Nat → Int32 → Int32 → Int32 → Sg → Option (Int32 × Sg)
  | 0, _, _, _, _ => none
  | n + 1, v2, v4, v5, σ => j_isUnbalanced_0_17_H23 (j_isUnbalanced_0_17_L23 n) v2 v4 v5 σ
def j_isUnbalanced_0_17 (σ : Sg) : Option (Int32 × Sg) :=
  j_isUnbalanced_0_17_L23 fu (((1 : Int32) <<< ((σ.1 1 0) &&& 31)) - 1) 25 0 σ
def j_setOf_17_b24 (k4 : Int32 → Int32 → Sg → Option (Int32 × Sg)) (v2 : Int32) (s0 : Int32) (s1 : Int32) (σ : Sg) : Option (Int32 × Sg) :=
  k4 (s0 ||| s1) (v2 + 1) σ
def j_setOf_17_H4 (k4 : Int32 → Int32 → Sg → Option (Int32 × Sg)) (v1 : Int32) (v2 : Int32) (σ : Sg) : Option (Int32 × Sg) :=
  if 8 ≤ v2 then some (v1, σ) else gd (inB v2 8) (if (σ.1 17 v2.toNatClampNeg) = 0 then j_setOf_17_b24 k4 v2 v1 0 σ else j_setOf_17_b24 k4 v2 v1 ((1 : Int32) <<< (v2 &&& 31)) σ)
def j_setOf_17_L4 : Nat → Int32 → Int32 → Sg → Option (Int32 × Sg)
  | 0, _, _, _ => none
  | n + 1, v1, v2, σ => j_setOf_17_H4 (j_setOf_17_L4 n) v1 v2 σ
def j_setOf_17 (σ : Sg) : Option (Int32 × Sg) :=
  j_setOf_17_L4 fu 0 0 σ
def j_alike_0_b78 (k21 : Int32 → Int32 → Sg → Option (Int32 × Sg)) (v1 : Int32) (v2 : Int32) (σ : Sg) : Option (Int32 × Sg) :=
  k21 v1 (v2 + 1) σ
def j_alike_0_H21 (k21 : Int32 → Int32 → Sg → Option (Int32 × Sg)) (v1 : Int32) (v2 : Int32) (σ : Sg) : Option (Int32 × Sg) :=
  if v1 ≤ v2 then some ((-9), σ) else bd (j_looseAt_4 v2 σ) fun r1 σ1 => bd (j_relation_5_17 r1 σ1) fun _ σ2 => bd (j_setOf_17 σ2) fun r3 σ3 => bd (j_haveScales_1 r3 σ3) fun r4 σ4 => if r4 = 0 then j_alike_0_b78 k21 v1 v2 σ4 else bd (j_isUnbalanced_0_17 σ4) fun r5 σ5 => if r5 = 0 then j_alike_0_b78 k21 v1 v2 σ5 else some (v2, σ5)
def j_alike_0_L21 : Nat → Int32 → Int32 → Sg → Option (Int32 × Sg)
  | 0, _, _, _ => none
  | n + 1, v1, v2, σ => j_alike_0_H21 (j_alike_0_L21 n) v1 v2 σ
def j_alike_0 (σ : Sg) : Option (Int32 × Sg) :=
  j_alike_0_L21 fu ((σ.1 4 0) - (σ.1 5 3)) 0 σ
def j_isPrime_s_H9 (k9 : Int32 → Int32 → Int32 → Sg → Option (Int32 × Sg)) (v0 : Int32) (v2 : Int32) (v3 : Int32) (σ : Sg) : Option (Int32 × Sg) :=
  if v2 ≤ v3 then some (0, σ) else gd (inB v3 25) (if (sv 1004 v3.toNatClampNeg) = v0 then some (1, σ) else k9 v0 v2 (v3 + 1) σ)
def j_isPrime_s_L9 : Nat → Int32 → Int32 → Int32 → Sg → Option (Int32 × Sg)
  | 0, _, _, _, _ => none
  | n + 1, v0, v2, v3, σ => j_isPrime_s_H9 (j_isPrime_s_L9 n) v0 v2 v3 σ
def j_isPrime_s (v0 : Int32) (σ : Sg) : Option (Int32 × Sg) :=
  j_isPrime_s_L9 fu v0 25 0 σ
def j_must_0_b30 (σ : Sg) : Option (Int64 × Sg) :=
  bd (j_refusedFarLong_0 (-2) σ) fun r1 σ1 => some (r1, σ1)
def j_must_0_b59 (σ : Sg) : Option (Int64 × Sg) :=
  bd (j_refusedFarLong_0 (-3) σ) fun r1 σ1 => some (r1, σ1)
def j_must_0 (v1 : Int32) (v2 : Int32) (v3 : Int32) (v4 : Int32) (σ : Sg) : Option (Int64 × Sg) :=
  bd (j_isOutside_0 v1 v2 σ) fun r1 σ1 => if r1 = 0 then bd (j_refusedFarLong_0 (-1) σ1) fun r14 σ14 => some (r14, σ14) else bd (j_isPrime_s v3 σ1) fun r2 σ2 => if r2 = 0 then j_must_0_b30 σ2 else bd (j_isPart_s v4 σ2) fun r3 σ3 => if r3 = 0 then j_must_0_b30 σ3 else bd (j_choose_6 v1 σ3) fun r4 σ4 => if r4 = 0 then j_must_0_b59 σ4 else bd (j_haveScales_1 v1 σ4) fun r5 σ5 => if r5 = 0 then j_must_0_b59 σ5 else bd (j_relation_7_17 v2 σ5) fun _ σ6 => bd (j_together_1_17 v1 v3 σ6) fun r7 σ7 => gd (inB v2 8) (bd (j_partOf_s (-r7) ((σ7.1 17 v2.toNatClampNeg).toInt64) v4 σ7) fun r9 σ9 => some (r9, σ9))
def j_whole_0_b37 (σ : Sg) : Option (Int32 × Sg) :=
  bd (j_refused_0 (-3) σ) fun r1 σ1 => some (r1, σ1)
def j_whole_0_H70 (k70 : Int32 → Int32 → Int32 → Int32 → Sg → Option (Int32 × Sg)) (v1 : Int32) (v2 : Int32) (v4 : Int32) (v5 : Int32) (σ : Sg) : Option (Int32 × Sg) :=
  if v4 ≤ v5 then some (1, σ) else gd (inB v5 25) (bd (j_together_1_17 v1 (sv 1004 v5.toNatClampNeg) σ) fun r2 σ2 => gd (inB v2 8) (bd (j_partOf_s r2 ((σ2.1 17 v2.toNatClampNeg).toInt64) 1 σ2) fun r4 σ4 => if (lg_cmp r4 1) = 0 then k70 v1 v2 v4 (v5 + 1) σ4 else some (0, σ4)))
def j_whole_0_L70 : Nat → Int32 → Int32 → Int32 → Int32 → Sg → Option (Int32 × Sg)
  | 0, _, _, _, _, _ => none
  | n + 1, v1, v2, v4, v5, σ => j_whole_0_H70 (j_whole_0_L70 n) v1 v2 v4 v5 σ
def j_whole_0 (v1 : Int32) (v2 : Int32) (σ : Sg) : Option (Int32 × Sg) :=
  bd (j_isOutside_0 v1 v2 σ) fun r1 σ1 => if r1 = 0 then bd (j_refused_0 (-1) σ1) fun r7 σ7 => some (r7, σ7) else bd (j_choose_6 v1 σ1) fun r2 σ2 => if r2 = 0 then j_whole_0_b37 σ2 else bd (j_haveScales_1 v1 σ2) fun r3 σ3 => if r3 = 0 then j_whole_0_b37 σ3 else bd (j_relation_7_17 v2 σ3) fun _ σ4 => j_whole_0_L70 fu v1 v2 25 0 σ4
def j_off_0_b36 (σ : Sg) : Option (Int32 × Sg) :=
  bd (j_refused_0 (-3) σ) fun r1 σ1 => some (r1, σ1)
def j_off_0_b113 (k47 : Int32 → Int32 → Int32 → Sg → Option (Int32 × Sg)) (v1 : Int32) (v2 : Int32) (v3 : Int32) (σ : Sg) : Option (Int32 × Sg) :=
  k47 v1 v2 (v3 + 1) σ
def j_off_0_b111 (k47 : Int32 → Int32 → Int32 → Sg → Option (Int32 × Sg)) (v1 : Int32) (v3 : Int32) (s0 : Int32) (s1 : Int32) (σ : Sg) : Option (Int32 × Sg) :=
  j_off_0_b113 k47 v1 (s0 ||| s1) v3 σ
def j_off_0_H47 (k47 : Int32 → Int32 → Int32 → Sg → Option (Int32 × Sg)) (v1 : Int32) (v2 : Int32) (v3 : Int32) (σ : Sg) : Option (Int32 × Sg) :=
  if (σ.1 1 0) ≤ v3 then some (v2, σ) else bd (j_bit_s v1 v3 σ) fun r1 σ1 => if r1 = 0 then bd (j_hasScale_1 v3 σ1) fun r2 σ2 => if r2 = 0 then j_off_0_b113 k47 v1 v2 v3 σ2 else bd (j_relation_7_17 v3 σ2) fun _ σ3 => bd (j_isUnbalanced_0_17 σ3) fun r4 σ4 => if r4 = 0 then j_off_0_b111 k47 v1 v3 v2 0 σ4 else j_off_0_b111 k47 v1 v3 v2 ((1 : Int32) <<< (v3 &&& 31)) σ4 else j_off_0_b113 k47 v1 v2 v3 σ1
def j_off_0_L47 : Nat → Int32 → Int32 → Int32 → Sg → Option (Int32 × Sg)
  | 0, _, _, _, _ => none
  | n + 1, v1, v2, v3, σ => j_off_0_H47 (j_off_0_L47 n) v1 v2 v3 σ
def j_off_0 (v1 : Int32) (σ : Sg) : Option (Int32 × Sg) :=
  bd (j_isSet_0 v1 σ) fun r1 σ1 => if r1 = 0 then bd (j_refused_0 (-1) σ1) fun r6 σ6 => some (r6, σ6) else bd (j_choose_6 v1 σ1) fun r2 σ2 => if r2 = 0 then j_off_0_b36 σ2 else bd (j_haveScales_1 v1 σ2) fun r3 σ3 => if r3 = 0 then j_off_0_b36 σ3 else j_off_0_L47 fu v1 0 0 σ3
def j_hasRow_94_95_H22 (rs : Int32 → Int32 → Int32 → Int64 → Sg → Option (Int32 × Sg)) (k22 : Int32 → Int32 → Int32 → Int64 → Int32 → Sg → Option (Int32 × Sg)) (v1 : Int32) (v3 : Int32) (v4 : Int32) (v5 : Int64) (v7 : Int32) (σ : Sg) : Option (Int32 × Sg) :=
  if v1 ≤ v7 then some (0, σ) else gd (inB v3 3) (gd (inB v7 16) (bd (rs v1 (v3 + 1) v4 (v5 - ((si σ 95 v3.toNatClampNeg v7).2 94 v7.toNatClampNeg)) (si σ 95 v3.toNatClampNeg v7)) fun r3 σ3 => if r3 = 0 then k22 v1 v3 v4 v5 (v7 + 1) σ3 else some (1, σ3)))
def j_hasRow_94_95_L22 (rs : Int32 → Int32 → Int32 → Int64 → Sg → Option (Int32 × Sg)) : Nat → Int32 → Int32 → Int32 → Int64 → Int32 → Sg → Option (Int32 × Sg)
  | 0, _, _, _, _, _, _ => none
  | n + 1, v1, v3, v4, v5, v7, σ => j_hasRow_94_95_H22 rs (j_hasRow_94_95_L22 rs n) v1 v3 v4 v5 v7 σ
def j_hasRow_94_95_b18 (rs : Int32 → Int32 → Int32 → Int64 → Sg → Option (Int32 × Sg)) (s0 : Int32) (σ : Sg) : Option (Int32 × Sg) :=
  gd (nbB s0) (some (s0, σ))
def j_hasRow_94_95_H (rs : Int32 → Int32 → Int32 → Int64 → Sg → Option (Int32 × Sg)) (v1 : Int32) (v3 : Int32) (v4 : Int32) (v5 : Int64) (σ : Sg) : Option (Int32 × Sg) :=
  if v3 < v4 then j_hasRow_94_95_L22 rs fu v1 v3 v4 v5 0 σ else if (lg_cmp v5 0) = 0 then j_hasRow_94_95_b18 rs 1 σ else j_hasRow_94_95_b18 rs 0 σ
def j_hasRow_94_95 : Nat → Int32 → Int32 → Int32 → Int64 → Sg → Option (Int32 × Sg)
  | 0, _, _, _, _, _ => none
  | n + 1, v1, v3, v4, v5, σ => j_hasRow_94_95_H (j_hasRow_94_95 n) v1 v3 v4 v5 σ
def j_keyOf_19_H11 (k11 : Int64 → Int32 → Int32 → Sg → Option (Int64 × Sg)) (v1 : Int64) (v4 : Int32) (v5 : Int32) (σ : Sg) : Option (Int64 × Sg) :=
  if v4 ≤ v5 then some (v1, σ) else gd (inB v5 5) (k11 ((v1 * 4096) + ((σ.1 19 v5.toNatClampNeg).toInt64)) v4 (v5 + 1) σ)
def j_keyOf_19_L11 : Nat → Int64 → Int32 → Int32 → Sg → Option (Int64 × Sg)
  | 0, _, _, _, _ => none
  | n + 1, v1, v4, v5, σ => j_keyOf_19_H11 (j_keyOf_19_L11 n) v1 v4 v5 σ
def j_keyOf_19 (σ : Sg) : Option (Int64 × Sg) :=
  j_keyOf_19_L11 fu 0 5 0 σ
def j_findRow_8_19_H107 (k107 : Int64 → Int32 → Sg → Option (Int32 × Sg)) (v2 : Int64) (v4 : Int32) (σ : Sg) : Option (Int32 × Sg) :=
  if 3 < v4 then some ((-9), σ) else bd (j_hasRow_94_95 12 (2 * (σ.1 4 0)) 0 v4 v2 σ) fun r1 σ1 => if r1 = 0 then k107 v2 (v4 + 1) σ1 else some (v4, σ1)
def j_findRow_8_19_L107 : Nat → Int64 → Int32 → Sg → Option (Int32 × Sg)
  | 0, _, _, _ => none
  | n + 1, v2, v4, σ => j_findRow_8_19_H107 (j_findRow_8_19_L107 n) v2 v4 σ
def j_findRow_8_19_H45 (k45 : Int32 → Sg → Option (Int32 × Sg)) (v2 : Int32) (σ : Sg) : Option (Int32 × Sg) :=
  if (σ.1 4 0) ≤ v2 then bd (j_keyOf_19 σ) fun r1 σ1 => j_findRow_8_19_L107 fu r1 0 σ1 else gd (inB v2 8) (gd (inB (2 * v2) 16) (gd (inB v2 8) (gd (inB ((2 * v2) + 1) 16) (k45 (v2 + 1) (sl (sl σ 94 (2 * v2).toNatClampNeg (σ.2 77 v2.toNatClampNeg)) 94 ((2 * v2) + 1).toNatClampNeg (-((sl σ 94 (2 * v2).toNatClampNeg (σ.2 77 v2.toNatClampNeg)).2 77 v2.toNatClampNeg)))))))
def j_findRow_8_19_L45 : Nat → Int32 → Sg → Option (Int32 × Sg)
  | 0, _, _ => none
  | n + 1, v2, σ => j_findRow_8_19_H45 (j_findRow_8_19_L45 n) v2 σ
def j_findRow_8_19_b34 (σ : Sg) : Option (Int32 × Sg) :=
  some ((-9), σ)
def j_findRow_8_19_H8 (k8 : Int32 → Int32 → Sg → Option (Int32 × Sg)) (v3 : Int32) (v4 : Int32) (σ : Sg) : Option (Int32 × Sg) :=
  if v3 ≤ v4 then j_findRow_8_19_L45 fu 0 σ else gd (inB v4 5) (if (σ.1 19 v4.toNatClampNeg) < (-99) then j_findRow_8_19_b34 σ else if (σ.1 19 v4.toNatClampNeg) ≤ 99 then k8 v3 (v4 + 1) σ else j_findRow_8_19_b34 σ)
def j_findRow_8_19_L8 : Nat → Int32 → Int32 → Sg → Option (Int32 × Sg)
  | 0, _, _, _ => none
  | n + 1, v3, v4, σ => j_findRow_8_19_H8 (j_findRow_8_19_L8 n) v3 v4 σ
def j_findRow_8_19 (σ : Sg) : Option (Int32 × Sg) :=
  j_findRow_8_19_L8 fu 5 0 σ
def j_fewestAt_8_19_b17 (v3 : Int32) (σ : Sg) : Option (Int32 × Sg) :=
  some (v3, σ)
def j_fewestAt_8_19_b39 (s0 : Int32) (σ : Sg) : Option (Int32 × Sg) :=
  some (s0, σ)
def j_fewestAt_8_19_b37 (σ : Sg) : Option (Int32 × Sg) :=
  j_fewestAt_8_19_b39 (-9) σ
def j_fewestAt_8_19 (v2 : Int32) (σ : Sg) : Option (Int32 × Sg) :=
  bd (j_findRow_8_19 σ) fun r1 σ1 => if v2 = (-1) then j_fewestAt_8_19_b17 r1 σ1 else if r1 = (-9) then j_fewestAt_8_19_b17 r1 σ1 else if v2 < 0 then j_fewestAt_8_19_b37 σ1 else if r1 ≤ v2 then j_fewestAt_8_19_b37 σ1 else gd (inB v2 3) (j_fewestAt_8_19_b39 (σ1.1 95 v2.toNatClampNeg) σ1)
def j_takeNumbers_0_19_b54 (σ : Sg) : Option (Int32 × Sg) :=
  some (0, σ)
def j_takeNumbers_0_19_b35 (k3 : Int32 → Int32 → Int32 → Sg → Option (Int32 × Sg)) (v1 : Int32) (v2 : Int32) (v4 : Int32) (s1 : Int32) (s2 : Int32) (σ : Sg) : Option (Int32 × Sg) :=
  gd (inB s1 5) (gd (inB v4 5) (if ((si σ 19 s1.toNatClampNeg s2).1 19 v4.toNatClampNeg) < (-99) then j_takeNumbers_0_19_b54 (si σ 19 s1.toNatClampNeg s2) else gd (inB v4 5) (if ((si σ 19 s1.toNatClampNeg s2).1 19 v4.toNatClampNeg) ≤ 99 then k3 v1 v2 (v4 + 1) (si σ 19 s1.toNatClampNeg s2) else j_takeNumbers_0_19_b54 (si σ 19 s1.toNatClampNeg s2))))
def j_takeNumbers_0_19_H3 (k3 : Int32 → Int32 → Int32 → Sg → Option (Int32 × Sg)) (v1 : Int32) (v2 : Int32) (v4 : Int32) (σ : Sg) : Option (Int32 × Sg) :=
  if v2 ≤ v4 then some (1, σ) else bd (j_isPlace_0 v1 v4 σ) fun r1 σ1 => if r1 = 0 then j_takeNumbers_0_19_b35 k3 v1 v2 v4 v4 0 σ1 else gd (inB v1 3) (gd (arB 0 (13 + v1.toNatClampNeg) v4) (j_takeNumbers_0_19_b35 k3 v1 v2 v4 v4 (σ1.1 (13 + v1.toNatClampNeg) v4.toNatClampNeg) σ1))
def j_takeNumbers_0_19_L3 : Nat → Int32 → Int32 → Int32 → Sg → Option (Int32 × Sg)
  | 0, _, _, _, _ => none
  | n + 1, v1, v2, v4, σ => j_takeNumbers_0_19_H3 (j_takeNumbers_0_19_L3 n) v1 v2 v4 σ
def j_takeNumbers_0_19 (v1 : Int32) (v2 : Int32) (σ : Sg) : Option (Int32 × Sg) :=
  j_takeNumbers_0_19_L3 fu v1 v2 0 σ
def j_fewest_0_b70 (s0 : Int32) (σ : Sg) : Option (Int32 × Sg) :=
  some (s0, σ)
def j_fewest_0 (v1 : Int32) (v2 : Int32) (σ : Sg) : Option (Int32 × Sg) :=
  bd (j_isList_s v1 σ) fun r1 σ1 => if r1 = 0 then bd (j_refused_0 (-1) σ1) fun r10 σ10 => some (r10, σ10) else bd (j_isMissing_0 v1 σ1) fun r2 σ2 => if r2 = 0 then bd (j_takeNumbers_0_19 v1 5 σ2) fun r3 σ3 => if r3 = 0 then bd (j_refused_0 (-3) σ3) fun r7 σ7 => some (r7, σ7) else if (-1) ≤ v2 then bd (j_fewestAt_8_19 v2 σ3) fun r4 σ4 => j_fewest_0_b70 r4 σ4 else bd (j_refused_0 (-4) σ3) fun r5 σ5 => j_fewest_0_b70 r5 σ5 else some ((-11), σ2)
def j_fillAJJ_96_H6 (k6 : Int64 → Int32 → Int32 → Sg → Option (Unit × Sg)) (v1 : Int64) (v3 : Int32) (v4 : Int32) (σ : Sg) : Option (Unit × Sg) :=
  if v4 ≤ v3 then some ((), σ) else gd (inB v3 1024) (k6 v1 (v3 + 1) v4 (sl σ 96 v3.toNatClampNeg v1))
def j_fillAJJ_96_L6 : Nat → Int64 → Int32 → Int32 → Sg → Option (Unit × Sg)
  | 0, _, _, _, _ => none
  | n + 1, v1, v3, v4, σ => j_fillAJJ_96_H6 (j_fillAJJ_96_L6 n) v1 v3 v4 σ
def j_fillAJJ_96 (v1 : Int64) (σ : Sg) : Option (Unit × Sg) :=
  j_fillAJJ_96_L6 fu v1 0 1024 σ
def j_isNew_96_H17 (k17 : Int64 → Int32 → Int32 → Sg → Option (Int32 × Sg)) (v1 : Int64) (v3 : Int32) (v4 : Int32) (σ : Sg) : Option (Int32 × Sg) :=
  if 1024 ≤ v4 then some (0, σ) else gd (inB v3 1024) (if (lg_cmp (σ.2 96 v3.toNatClampNeg) v1) = 0 then some (0, σ) else gd (inB v3 1024) (if (lg_cmp (σ.2 96 v3.toNatClampNeg) (-9223372036854775808)) = 0 then gd (inB v3 1024) (some (1, sl σ 96 v3.toNatClampNeg v1)) else k17 v1 (irm (v3 + 1) 1024) (v4 + 1) σ))
def j_isNew_96_L17 : Nat → Int64 → Int32 → Int32 → Sg → Option (Int32 × Sg)
  | 0, _, _, _, _ => none
  | n + 1, v1, v3, v4, σ => j_isNew_96_H17 (j_isNew_96_L17 n) v1 v3 v4 σ
def j_isNew_96 (v1 : Int64) (σ : Sg) : Option (Int32 × Sg) :=
  j_isNew_96_L17 fu v1 ((lrm (lush (v1 * (-7046029254386353131)) 40) 1024).toInt32) 0 σ
def j_gather_96_77_H28 (rs : Int32 → Int32 → Int32 → Int64 → Sg → Option (Int32 × Sg)) (k28 : Int32 → Int32 → Int32 → Int64 → Int32 → Int32 → Sg → Option (Int32 × Sg)) (v2 : Int32) (v3 : Int32) (v4 : Int32) (v5 : Int64) (v7 : Int32) (v8 : Int32) (σ : Sg) : Option (Int32 × Sg) :=
  if v4 < v8 then some (v7, σ) else bd (j_absI_s v8 σ) fun r1 σ1 => gd (inB v3 8) (bd (rs v2 (v3 + 1) (v4 - r1) (v5 + (v8.toInt64 * (σ1.2 77 v3.toNatClampNeg))) σ1) fun r3 σ3 => k28 v2 v3 v4 v5 (v7 + r3) (v8 + 1) σ3)
def j_gather_96_77_L28 (rs : Int32 → Int32 → Int32 → Int64 → Sg → Option (Int32 × Sg)) : Nat → Int32 → Int32 → Int32 → Int64 → Int32 → Int32 → Sg → Option (Int32 × Sg)
  | 0, _, _, _, _, _, _, _ => none
  | n + 1, v2, v3, v4, v5, v7, v8, σ => j_gather_96_77_H28 rs (j_gather_96_77_L28 rs n) v2 v3 v4 v5 v7 v8 σ
def j_gather_96_77_b19 (rs : Int32 → Int32 → Int32 → Int64 → Sg → Option (Int32 × Sg)) (s0 : Int32) (σ : Sg) : Option (Int32 × Sg) :=
  some (s0, σ)
def j_gather_96_77_H (rs : Int32 → Int32 → Int32 → Int64 → Sg → Option (Int32 × Sg)) (v2 : Int32) (v3 : Int32) (v4 : Int32) (v5 : Int64) (σ : Sg) : Option (Int32 × Sg) :=
  if v3 < v2 then j_gather_96_77_L28 rs fu v2 v3 v4 v5 0 (-v4) σ else bd (j_isNew_96 v5 σ) fun r1 σ1 => if r1 = 0 then j_gather_96_77_b19 rs 0 σ1 else j_gather_96_77_b19 rs 1 σ1
def j_gather_96_77 : Nat → Int32 → Int32 → Int32 → Int64 → Sg → Option (Int32 × Sg)
  | 0, _, _, _, _, _ => none
  | n + 1, v2, v3, v4, v5, σ => j_gather_96_77_H (j_gather_96_77 n) v2 v3 v4 v5 σ
def j_dimensionsHad_8 (v1 : Int32) (σ : Sg) : Option (Int32 × Sg) :=
  bd (j_fillAJJ_96 (-9223372036854775808) σ) fun _ σ1 => bd (j_gather_96_77 12 (σ1.1 4 0) 0 v1 0 σ1) fun r2 σ2 => some (r2, σ2)
def j_had_0_b33 (s0 : Int32) (σ : Sg) : Option (Int32 × Sg) :=
  some (s0, σ)
def j_had_0 (v1 : Int32) (σ : Sg) : Option (Int32 × Sg) :=
  if 0 ≤ v1 then if v1 ≤ 3 then bd (j_dimensionsHad_8 v1 σ) fun r1 σ1 => j_had_0_b33 r1 σ1 else bd (j_refused_0 (-6) σ) fun r2 σ2 => j_had_0_b33 r2 σ2 else bd (j_refused_0 (-4) σ) fun r4 σ4 => some (r4, σ4)
def j_keepFormula_1_11 (v2 : Int32) (v3 : Int32) (σ : Sg) : Option (Unit × Sg) :=
  bd (j_minII_s v2 72 σ) fun r1 σ1 => gd (cpB 11 33 0 0 ((si σ1 1 6 r1).1 1 6)) (some ((), si (scp (si σ1 1 6 r1) 11 33 0 0 (((si σ1 1 6 r1).1 1 6).toNatClampNeg)) 1 7 v3))
def j_fillAII_98_H5 (k5 : Int32 → Int32 → Int32 → Sg → Option (Unit × Sg)) (v1 : Int32) (v2 : Int32) (v3 : Int32) (σ : Sg) : Option (Unit × Sg) :=
  if v3 ≤ v2 then some ((), σ) else gd (inB v2 72) (k5 v1 (v2 + 1) v3 (si σ 98 v2.toNatClampNeg v1))
def j_fillAII_98_L5 : Nat → Int32 → Int32 → Int32 → Sg → Option (Unit × Sg)
  | 0, _, _, _, _ => none
  | n + 1, v1, v2, v3, σ => j_fillAII_98_H5 (j_fillAII_98_L5 n) v1 v2 v3 σ
def j_fillAII_98 (v1 : Int32) (σ : Sg) : Option (Unit × Sg) :=
  j_fillAII_98_L5 fu v1 0 72 σ
def j_failHere_9_b17 (σ : Sg) : Option (Unit × Sg) :=
  some ((), σ)
def j_failHere_9 (σ : Sg) : Option (Unit × Sg) :=
  if (σ.1 9 4) = (-9) then j_failHere_9_b17 (si σ 9 4 (σ.1 9 3)) else j_failHere_9_b17 σ
def j_next_9_b33 (s0 : Int32) (σ : Sg) : Option (Int32 × Sg) :=
  some (s0, σ)
def j_next_9_b32 (σ : Sg) : Option (Int32 × Sg) :=
  j_next_9_b33 (-1) σ
def j_next_9 (σ : Sg) : Option (Int32 × Sg) :=
  if (σ.1 9 4) = (-9) then if (σ.1 9 2) ≤ (σ.1 9 3) then j_next_9_b32 σ else gd (inB (σ.1 9 3) 72) (j_next_9_b33 (σ.1 97 (σ.1 9 3).toNatClampNeg) σ) else j_next_9_b32 σ
def j_expect_9_b25 (σ : Sg) : Option (Unit × Sg) :=
  some ((), σ)
def j_expect_9 (v1 : Int32) (σ : Sg) : Option (Unit × Sg) :=
  bd (j_next_9 σ) fun r1 σ1 => if r1 = v1 then j_expect_9_b25 (si σ1 9 3 ((σ1.1 9 3) + 1)) else bd (j_failHere_9 σ1) fun _ σ2 => j_expect_9_b25 σ2
def j_markWrong_9_b17 (σ : Sg) : Option (Unit × Sg) :=
  some ((), σ)
def j_markWrong_9 (v1 : Int32) (σ : Sg) : Option (Unit × Sg) :=
  if v1 < 0 then j_markWrong_9_b17 σ else if 72 ≤ v1 then j_markWrong_9_b17 σ else gd (inB v1 72) (j_markWrong_9_b17 (si σ 98 v1.toNatClampNeg 1))
def j_isNext_9_b20 (s0 : Int32) (σ : Sg) : Option (Int32 × Sg) :=
  gd (nbB s0) (some (s0, σ))
def j_isNext_9_b15 (σ : Sg) : Option (Int32 × Sg) :=
  j_isNext_9_b20 1 σ
def j_isNext_9 (v1 : Int32) (v2 : Int32) (σ : Sg) : Option (Int32 × Sg) :=
  bd (j_next_9 σ) fun r1 σ1 => if r1 = v1 then j_isNext_9_b15 σ1 else if r1 = v2 then j_isNext_9_b15 σ1 else j_isNext_9_b20 0 σ1
def j_isDigit_s_b17 (s0 : Int32) (σ : Sg) : Option (Int32 × Sg) :=
  gd (nbB s0) (some (s0, σ))
def j_isDigit_s_b16 (σ : Sg) : Option (Int32 × Sg) :=
  j_isDigit_s_b17 0 σ
def j_isDigit_s (v0 : Int32) (σ : Sg) : Option (Int32 × Sg) :=
  if v0 < 48 then j_isDigit_s_b16 σ else if 57 < v0 then j_isDigit_s_b16 σ else j_isDigit_s_b17 1 σ
def j_readNumber_9_b33 (σ : Sg) : Option (Unit × Sg) :=
  some ((), σ)
def j_readNumber_9_H2 (k2 : Int32 → Sg → Option (Unit × Sg)) (v1 : Int32) (σ : Sg) : Option (Unit × Sg) :=
  if 3 ≤ v1 then j_readNumber_9_b33 σ else bd (j_next_9 σ) fun r1 σ1 => bd (j_isDigit_s r1 σ1) fun r2 σ2 => if r2 = 0 then j_readNumber_9_b33 σ2 else k2 (v1 + 1) (si σ2 9 3 ((σ2.1 9 3) + 1))
def j_readNumber_9_L2 : Nat → Int32 → Sg → Option (Unit × Sg)
  | 0, _, _ => none
  | n + 1, v1, σ => j_readNumber_9_H2 (j_readNumber_9_L2 n) v1 σ
def j_readNumber_9 (σ : Sg) : Option (Unit × Sg) :=
  j_readNumber_9_L2 fu 0 σ
def j_readPower_9_b44 (v1 : Int32) (σ : Sg) : Option (Int32 × Sg) :=
  bd (j_next_9 σ) fun r1 σ1 => bd (j_isDigit_s r1 σ1) fun r2 σ2 => if r2 = 0 then bd (j_failHere_9 σ2) fun _ σ3 => some (1, σ3) else some (v1 * (r1 - 48), si σ2 9 3 ((σ2.1 9 3) + 1))
def j_readPower_9 (σ : Sg) : Option (Int32 × Sg) :=
  bd (j_next_9 σ) fun r1 σ1 => if r1 = 94 then bd (j_next_9 (si σ1 9 3 ((σ1.1 9 3) + 1))) fun r2 σ2 => if r2 = 45 then j_readPower_9_b44 (-1) (si σ2 9 3 ((σ2.1 9 3) + 1)) else j_readPower_9_b44 1 σ2 else some (1, σ1)
def j_same_x_x_H2 (k2 : Nat → Nat → Int32 → Sg → Option (Int32 × Sg)) (v0 : Nat) (v1 : Nat) (v2 : Int32) (σ : Sg) : Option (Int32 × Sg) :=
  if 5 ≤ v2 then some (1, σ) else gd (arB 0 v0 v2) (gd (arB 0 v1 v2) (if (σ.1 v0 v2.toNatClampNeg) = (σ.1 v1 v2.toNatClampNeg) then k2 v0 v1 (v2 + 1) σ else some (0, σ)))
def j_same_x_x_L2 : Nat → Nat → Nat → Int32 → Sg → Option (Int32 × Sg)
  | 0, _, _, _, _ => none
  | n + 1, v0, v1, v2, σ => j_same_x_x_H2 (j_same_x_x_L2 n) v0 v1 v2 σ
def j_same_x_x (v0 : Nat) (v1 : Nat) (σ : Sg) : Option (Int32 × Sg) :=
  j_same_x_x_L2 fu v0 v1 0 σ
def j_readInner_9_b74 (rs : Int32 → Sg → Option (Unit × Sg)) (σ : Sg) : Option (Nat × Sg) :=
  some (115, σ)
def j_readInner_9_b27 (rs : Int32 → Sg → Option (Unit × Sg)) (v1 : Int32) (v2 : Int32) (v3 : Int32) (σ : Sg) : Option (Nat × Sg) :=
  bd (rs (v1 + 1) σ) fun _ σ1 => bd (j_expect_9 41 σ1) fun _ σ2 => if v2 = 40 then gd (inB (v1 + 1) 7) (some (100 + (v1 + 1).toNatClampNeg, σ2)) else gd (inB (v1 + 1) 7) (bd (j_isPure_x (100 + (v1 + 1).toNatClampNeg) σ2) fun r4 σ4 => if r4 = 0 then bd (j_markWrong_9 v3 σ4) fun _ σ5 => j_readInner_9_b74 rs σ5 else j_readInner_9_b74 rs σ4)
def j_readInner_9 (rs : Int32 → Sg → Option (Unit × Sg)) (v1 : Int32) (v2 : Int32) (σ : Sg) : Option (Nat × Sg) :=
  if v2 = 115 then bd (j_expect_9 40 (si σ 9 3 ((σ.1 9 3) + 1))) fun _ σ1 => j_readInner_9_b27 rs v1 v2 (σ.1 9 3) σ1 else j_readInner_9_b27 rs v1 v2 (σ.1 9 3) (si σ 9 3 ((σ.1 9 3) + 1))
def j_readAtom_9_b98 (rs : Int32 → Sg → Option (Unit × Sg)) (σ : Sg) : Option (Nat × Sg) :=
  bd (j_failHere_9 σ) fun _ σ1 => some (115, σ1)
def j_readAtom_9_b85 (rs : Int32 → Sg → Option (Unit × Sg)) (v1 : Int32) (v2 : Int32) (σ : Sg) : Option (Nat × Sg) :=
  if 6 ≤ v1 then j_readAtom_9_b98 rs σ else bd (j_readInner_9 rs v1 v2 σ) fun r1 σ1 => some (r1, σ1)
def j_readAtom_9_b57 (rs : Int32 → Sg → Option (Unit × Sg)) (v1 : Int32) (v2 : Int32) (σ : Sg) : Option (Nat × Sg) :=
  bd (j_isDigit_s v2 σ) fun r1 σ1 => if r1 = 0 then if v2 = 40 then j_readAtom_9_b85 rs v1 v2 σ1 else if v2 = 115 then j_readAtom_9_b85 rs v1 v2 σ1 else j_readAtom_9_b98 rs σ1 else bd (j_readNumber_9 σ1) fun _ σ4 => some (115, σ4)
def j_readAtom_9 (rs : Int32 → Sg → Option (Unit × Sg)) (v1 : Int32) (σ : Sg) : Option (Nat × Sg) :=
  bd (j_next_9 σ) fun r1 σ1 => if (r1 - 65) < 0 then j_readAtom_9_b57 rs v1 r1 σ1 else if (σ1.1 4 0) ≤ (r1 - 65) then j_readAtom_9_b57 rs v1 r1 σ1 else gd (inB (r1 - 65) 8) (some (69 + (r1 - 65).toNatClampNeg, si (si σ1 9 3 ((σ1.1 9 3) + 1)) 9 6 (((si σ1 9 3 ((σ1.1 9 3) + 1)).1 9 6) ||| ((1 : Int32) <<< ((r1 - 65) &&& 31)))))
def j_readPart_9_H17 (rs : Int32 → Sg → Option (Unit × Sg)) (k17 : Int32 → Nat → Int32 → Int32 → Sg → Option (Unit × Sg)) (v1 : Int32) (v3 : Nat) (v4 : Int32) (v5 : Int32) (σ : Sg) : Option (Unit × Sg) :=
  if 5 ≤ v5 then some ((), σ) else gd (inB v1 7) (gd (arB 0 (108 + v1.toNatClampNeg) v5) (gd (arB 0 v3 v5) (gd (arB 0 (108 + v1.toNatClampNeg) v5) (k17 v1 v3 v4 (v5 + 1) (si σ (108 + v1.toNatClampNeg) v5.toNatClampNeg ((σ.1 (108 + v1.toNatClampNeg) v5.toNatClampNeg) + (v4 * (σ.1 v3 v5.toNatClampNeg))))))))
def j_readPart_9_L17 (rs : Int32 → Sg → Option (Unit × Sg)) : Nat → Int32 → Nat → Int32 → Int32 → Sg → Option (Unit × Sg)
  | 0, _, _, _, _, _ => none
  | n + 1, v1, v3, v4, v5, σ => j_readPart_9_H17 rs (j_readPart_9_L17 rs n) v1 v3 v4 v5 σ
def j_readPart_9 (rs : Int32 → Sg → Option (Unit × Sg)) (v1 : Int32) (v2 : Int32) (σ : Sg) : Option (Unit × Sg) :=
  bd (j_readAtom_9 rs v1 σ) fun r1 σ1 => bd (j_readPower_9 σ1) fun r2 σ2 => j_readPart_9_L17 rs fu v1 r1 (v2 * r2) 0 σ2
def j_readTerm_9_b82 (rs : Int32 → Sg → Option (Unit × Sg)) (σ : Sg) : Option (Unit × Sg) :=
  some ((), σ)
def j_readTerm_9_b59 (rs : Int32 → Sg → Option (Unit × Sg)) (k28 : Int32 → Int32 → Sg → Option (Unit × Sg)) (v1 : Int32) (v2 : Int32) (s0 : Int32) (σ : Sg) : Option (Unit × Sg) :=
  bd (j_readPart_9 rs v1 s0 (si σ 9 3 ((σ.1 9 3) + 1))) fun _ σ1 => k28 v1 (v2 + 1) σ1
def j_readTerm_9_H28 (rs : Int32 → Sg → Option (Unit × Sg)) (k28 : Int32 → Int32 → Sg → Option (Unit × Sg)) (v1 : Int32) (v2 : Int32) (σ : Sg) : Option (Unit × Sg) :=
  if 72 ≤ v2 then j_readTerm_9_b82 rs σ else bd (j_isNext_9 42 47 σ) fun r1 σ1 => if r1 = 0 then j_readTerm_9_b82 rs σ1 else bd (j_next_9 σ1) fun r2 σ2 => if r2 = 42 then j_readTerm_9_b59 rs k28 v1 v2 1 σ2 else j_readTerm_9_b59 rs k28 v1 v2 (-1) σ2
def j_readTerm_9_L28 (rs : Int32 → Sg → Option (Unit × Sg)) : Nat → Int32 → Int32 → Sg → Option (Unit × Sg)
  | 0, _, _, _ => none
  | n + 1, v1, v2, σ => j_readTerm_9_H28 rs (j_readTerm_9_L28 rs n) v1 v2 σ
def j_readTerm_9 (rs : Int32 → Sg → Option (Unit × Sg)) (v1 : Int32) (σ : Sg) : Option (Unit × Sg) :=
  gd (inB v1 7) (bd (j_fillAII_x (108 + v1.toNatClampNeg) 0 (si σ 9 5 ((σ.1 9 5) + 1))) fun _ σ2 => bd (j_readPart_9 rs v1 1 σ2) fun _ σ3 => j_readTerm_9_L28 rs fu v1 0 σ3)
def j_readSum_9_b91 (rs : Int32 → Sg → Option (Unit × Sg)) (σ : Sg) : Option (Unit × Sg) :=
  some ((), σ)
def j_readSum_9_b85 (rs : Int32 → Sg → Option (Unit × Sg)) (k25 : Int32 → Int32 → Sg → Option (Unit × Sg)) (v1 : Int32) (v2 : Int32) (σ : Sg) : Option (Unit × Sg) :=
  k25 v1 (v2 + 1) σ
def j_readSum_9_H25 (rs : Int32 → Sg → Option (Unit × Sg)) (k25 : Int32 → Int32 → Sg → Option (Unit × Sg)) (v1 : Int32) (v2 : Int32) (σ : Sg) : Option (Unit × Sg) :=
  if 72 ≤ v2 then j_readSum_9_b91 rs σ else bd (j_isNext_9 43 45 σ) fun r1 σ1 => if r1 = 0 then j_readSum_9_b91 rs σ1 else bd (j_readTerm_9 rs v1 (si σ1 9 3 ((σ1.1 9 3) + 1))) fun _ σ2 => gd (inB v1 7) (gd (inB v1 7) (bd (j_same_x_x (108 + v1.toNatClampNeg) (100 + v1.toNatClampNeg) σ2) fun r5 σ5 => if r5 = 0 then bd (j_markWrong_9 ((si σ1 9 3 ((σ1.1 9 3) + 1)).1 9 3) σ5) fun _ σ6 => j_readSum_9_b85 rs k25 v1 v2 σ6 else j_readSum_9_b85 rs k25 v1 v2 σ5))
def j_readSum_9_L25 (rs : Int32 → Sg → Option (Unit × Sg)) : Nat → Int32 → Int32 → Sg → Option (Unit × Sg)
  | 0, _, _, _ => none
  | n + 1, v1, v2, σ => j_readSum_9_H25 rs (j_readSum_9_L25 rs n) v1 v2 σ
def j_readSum_9_H (rs : Int32 → Sg → Option (Unit × Sg)) (v1 : Int32) (σ : Sg) : Option (Unit × Sg) :=
  bd (j_readTerm_9 rs v1 σ) fun _ σ1 => gd (inB v1 7) (gd (inB v1 7) (gd (cpB (108 + v1.toNatClampNeg) (100 + v1.toNatClampNeg) 0 0 5) (j_readSum_9_L25 rs fu v1 0 (scp σ1 (108 + v1.toNatClampNeg) (100 + v1.toNatClampNeg) 0 0 5))))
def j_readSum_9 : Nat → Int32 → Sg → Option (Unit × Sg)
  | 0, _, _ => none
  | n + 1, v1, σ => j_readSum_9_H (j_readSum_9 n) v1 σ
def j_same_116_117_H2 (k2 : Int32 → Sg → Option (Int32 × Sg)) (v2 : Int32) (σ : Sg) : Option (Int32 × Sg) :=
  if 5 ≤ v2 then some (1, σ) else gd (inB v2 5) (gd (inB v2 5) (if (σ.1 116 v2.toNatClampNeg) = (σ.1 117 v2.toNatClampNeg) then k2 (v2 + 1) σ else some (0, σ)))
def j_same_116_117_L2 : Nat → Int32 → Sg → Option (Int32 × Sg)
  | 0, _, _ => none
  | n + 1, v2, σ => j_same_116_117_H2 (j_same_116_117_L2 n) v2 σ
def j_same_116_117 (σ : Sg) : Option (Int32 × Sg) :=
  j_same_116_117_L2 fu 0 σ
def j_read_9_11_b130 (σ : Sg) : Option (Unit × Sg) :=
  some ((), σ)
def j_read_9_11 (v2 : Int32) (σ : Sg) : Option (Unit × Sg) :=
  bd (j_minII_s v2 72 σ) fun r1 σ1 => gd (cpB 11 97 0 0 ((si σ1 9 2 r1).1 9 2)) (bd (j_fillAII_98 0 (si (si (si (si (scp (si σ1 9 2 r1) 11 97 0 0 (((si σ1 9 2 r1).1 9 2).toNatClampNeg)) 9 3 0) 9 4 (-9)) 9 5 0) 9 6 0)) fun _ σ3 => bd (j_readSum_9 12 0 σ3) fun _ σ4 => gd (cpB 100 116 0 0 5) (bd (j_expect_9 61 (scp σ4 100 116 0 0 5)) fun _ σ6 => bd (j_readSum_9 12 0 σ6) fun _ σ7 => gd (cpB 100 117 0 0 5) (bd (j_expect_9 (-1) (scp σ7 100 117 0 0 5)) fun _ σ9 => bd (j_same_116_117 σ9) fun r10 σ10 => if r10 = 0 then bd (j_markWrong_9 ((scp σ4 100 116 0 0 5).1 9 3) σ10) fun _ σ11 => j_read_9_11_b130 σ11 else j_read_9_11_b130 σ10)))
def j_formula_0 (σ : Sg) : Option (Int32 × Sg) :=
  bd (j_read_9_11 (σ.1 0 9) σ) fun _ σ1 => if ((si σ1 0 9 0).1 9 4) = (-9) then bd (j_keepFormula_1_11 (σ1.1 0 9) ((si σ1 0 9 0).1 9 5) (si σ1 0 9 0)) fun _ σ2 => some (σ2.1 9 5, σ2) else some ((-1000) - ((si σ1 0 9 0).1 9 4), si σ1 0 9 0)
def j_hasFormula_1_b14 (s0 : Int32) (σ : Sg) : Option (Int32 × Sg) :=
  gd (nbB s0) (some (s0, σ))
def j_hasFormula_1 (σ : Sg) : Option (Int32 × Sg) :=
  if (σ.1 1 7) = (-9) then j_hasFormula_1_b14 0 σ else j_hasFormula_1_b14 1 σ
def j_countWrong_9_H13 (k13 : Int32 → Int32 → Int32 → Sg → Option (Int32 × Sg)) (v1 : Int32) (v3 : Int32) (v4 : Int32) (σ : Sg) : Option (Int32 × Sg) :=
  if v3 ≤ v4 then some (v1, σ) else gd (inB v4 72) (k13 (v1 + (σ.1 98 v4.toNatClampNeg)) v3 (v4 + 1) σ)
def j_countWrong_9_L13 : Nat → Int32 → Int32 → Int32 → Sg → Option (Int32 × Sg)
  | 0, _, _, _, _ => none
  | n + 1, v1, v3, v4, σ => j_countWrong_9_H13 (j_countWrong_9_L13 n) v1 v3 v4 σ
def j_countWrong_9 (σ : Sg) : Option (Int32 × Sg) :=
  j_countWrong_9_L13 fu 0 72 0 σ
def j_firstWrong_9_H2 (k2 : Int32 → Sg → Option (Int32 × Sg)) (v1 : Int32) (σ : Sg) : Option (Int32 × Sg) :=
  if (σ.1 9 2) ≤ v1 then some ((-9), σ) else gd (inB v1 72) (if (σ.1 98 v1.toNatClampNeg) = 1 then some (v1, σ) else k2 (v1 + 1) σ)
def j_firstWrong_9_L2 : Nat → Int32 → Sg → Option (Int32 × Sg)
  | 0, _, _ => none
  | n + 1, v1, σ => j_firstWrong_9_H2 (j_firstWrong_9_L2 n) v1 σ
def j_firstWrong_9 (σ : Sg) : Option (Int32 × Sg) :=
  j_firstWrong_9_L2 fu 0 σ
def j_read_9_33_b130 (σ : Sg) : Option (Unit × Sg) :=
  some ((), σ)
def j_read_9_33 (v2 : Int32) (σ : Sg) : Option (Unit × Sg) :=
  bd (j_minII_s v2 72 σ) fun r1 σ1 => gd (cpB 33 97 0 0 ((si σ1 9 2 r1).1 9 2)) (bd (j_fillAII_98 0 (si (si (si (si (scp (si σ1 9 2 r1) 33 97 0 0 (((si σ1 9 2 r1).1 9 2).toNatClampNeg)) 9 3 0) 9 4 (-9)) 9 5 0) 9 6 0)) fun _ σ3 => bd (j_readSum_9 12 0 σ3) fun _ σ4 => gd (cpB 100 116 0 0 5) (bd (j_expect_9 61 (scp σ4 100 116 0 0 5)) fun _ σ6 => bd (j_readSum_9 12 0 σ6) fun _ σ7 => gd (cpB 100 117 0 0 5) (bd (j_expect_9 (-1) (scp σ7 100 117 0 0 5)) fun _ σ9 => bd (j_same_116_117 σ9) fun r10 σ10 => if r10 = 0 then bd (j_markWrong_9 ((scp σ4 100 116 0 0 5).1 9 3) σ10) fun _ σ11 => j_read_9_33_b130 σ11 else j_read_9_33_b130 σ10)))
def j_wrong_0_b9 (σ : Sg) : Option (Int32 × Sg) :=
  bd (j_refused_0 (-2) σ) fun r1 σ1 => some (r1, σ1)
def j_wrong_0_b88 (s0 : Int32) (σ : Sg) : Option (Int32 × Sg) :=
  some (s0, σ)
def j_wrong_0 (v1 : Int32) (σ : Sg) : Option (Int32 × Sg) :=
  if v1 < 0 then j_wrong_0_b9 σ else if v1 ≤ 2 then bd (j_hasFormula_1 σ) fun r1 σ1 => if r1 = 0 then bd (j_refused_0 (-3) σ1) fun r7 σ7 => some (r7, σ7) else bd (j_read_9_33 (σ1.1 1 6) σ1) fun _ σ2 => if v1 = 0 then bd (j_firstWrong_9 σ2) fun r5 σ5 => some (r5, σ5) else if v1 = 1 then bd (j_countWrong_9 σ2) fun r3 σ3 => j_wrong_0_b88 r3 σ3 else j_wrong_0_b88 (σ2.1 9 6) σ2 else j_wrong_0_b9 σ
def j_lacks_9 (v1 : Int32) (σ : Sg) : Option (Int32 × Sg) :=
  gd (inB v1 5) (gd (inB v1 5) (some ((σ.1 116 v1.toNatClampNeg) - (σ.1 117 v1.toNatClampNeg), σ)))
def j_sides_0_b22 (σ : Sg) : Option (Int32 × Sg) :=
  bd (j_refusedFar_0 (-2) σ) fun r1 σ1 => some (r1, σ1)
def j_sides_0_b106 (s0 : Int32) (σ : Sg) : Option (Int32 × Sg) :=
  some (s0, σ)
def j_sides_0 (v1 : Int32) (v2 : Int32) (σ : Sg) : Option (Int32 × Sg) :=
  bd (j_isUnit_s v2 σ) fun r1 σ1 => if r1 = 0 then bd (j_refusedFar_0 (-1) σ1) fun r13 σ13 => some (r13, σ13) else if v1 < 0 then j_sides_0_b22 σ1 else if v1 ≤ 2 then bd (j_hasFormula_1 σ1) fun r2 σ2 => if r2 = 0 then bd (j_refusedFar_0 (-3) σ2) fun r9 σ9 => some (r9, σ9) else bd (j_read_9_33 (σ2.1 1 6) σ2) fun _ σ3 => if v1 = 0 then gd (inB v2 5) (some (σ3.1 116 v2.toNatClampNeg, σ3)) else if v1 = 1 then gd (inB v2 5) (j_sides_0_b106 (σ3.1 117 v2.toNatClampNeg) σ3) else bd (j_lacks_9 v2 σ3) fun r4 σ4 => j_sides_0_b106 r4 σ4 else j_sides_0_b22 σ1
def j_mend_0_H52 (k52 : Int32 → Int32 → Sg → Option (Int32 × Sg)) (v1 : Int32) (v2 : Int32) (σ : Sg) : Option (Int32 × Sg) :=
  if 5 ≤ v2 then bd (j_fewestAt_8_19 v1 σ) fun r1 σ1 => some (r1, σ1) else bd (j_lacks_9 v2 σ) fun r2 σ2 => gd (inB v2 5) (k52 v1 (v2 + 1) (si σ2 19 v2.toNatClampNeg r2))
def j_mend_0_L52 : Nat → Int32 → Int32 → Sg → Option (Int32 × Sg)
  | 0, _, _, _ => none
  | n + 1, v1, v2, σ => j_mend_0_H52 (j_mend_0_L52 n) v1 v2 σ
def j_mend_0 (v1 : Int32) (σ : Sg) : Option (Int32 × Sg) :=
  if (-1) ≤ v1 then bd (j_hasFormula_1 σ) fun r1 σ1 => if r1 = 0 then bd (j_refused_0 (-3) σ1) fun r3 σ3 => some (r3, σ3) else bd (j_read_9_33 (σ1.1 1 6) σ1) fun _ σ2 => j_mend_0_L52 fu v1 0 σ2 else bd (j_refused_0 (-4) σ) fun r5 σ5 => some (r5, σ5)
def j_lots_0_b170 (s0 : Int32) (σ : Sg) : Option (Int32 × Sg) :=
  some (s0, σ)
def j_lots_0_b134 (k53 : Int32 → Int32 → Int32 → Int32 → Int32 → Int32 → Sg → Option (Int32 × Sg)) (v1 : Int32) (v3 : Int32) (v5 : Int32) (v6 : Int32) (v7 : Int32) (s0 : Int32) (s1 : Int32) (σ : Sg) : Option (Int32 × Sg) :=
  bd (j_sizeOfDimension_4_18 σ) fun r1 σ1 => k53 v1 v3 (s0 + s1) (v5 + r1) v6 (v7 + 1) σ1
def j_lots_0_H62 (k53 : Int32 → Int32 → Int32 → Int32 → Int32 → Int32 → Sg → Option (Int32 × Sg)) (k62 : Int32 → Int32 → Int32 → Int32 → Int32 → Int32 → Int32 → Sg → Option (Int32 × Sg)) (v1 : Int32) (v3 : Int32) (v4 : Int32) (v5 : Int32) (v6 : Int32) (v7 : Int32) (v8 : Int32) (σ : Sg) : Option (Int32 × Sg) :=
  if (σ.1 1 0) ≤ v8 then bd (j_isPureProduct_4_18 σ) fun r1 σ1 => if r1 = 0 then j_lots_0_b134 k53 v1 v3 v5 v6 v7 v4 0 σ1 else j_lots_0_b134 k53 v1 v3 v5 v6 v7 v4 1 σ1 else gd (inB v8 8) (k62 v1 v3 v4 v5 ((v6 * 1664525) + 1013904223) v7 (v8 + 1) (si σ 18 v8.toNatClampNeg ((irm ((((v6 * 1664525) + 1013904223) &&& 2147483647) / 256) 5) - 2)))
def j_lots_0_L62 (k53 : Int32 → Int32 → Int32 → Int32 → Int32 → Int32 → Sg → Option (Int32 × Sg)) : Nat → Int32 → Int32 → Int32 → Int32 → Int32 → Int32 → Int32 → Sg → Option (Int32 × Sg)
  | 0, _, _, _, _, _, _, _, _ => none
  | n + 1, v1, v3, v4, v5, v6, v7, v8, σ => j_lots_0_H62 k53 (j_lots_0_L62 k53 n) v1 v3 v4 v5 v6 v7 v8 σ
def j_lots_0_H53 (k53 : Int32 → Int32 → Int32 → Int32 → Int32 → Int32 → Sg → Option (Int32 × Sg)) (v1 : Int32) (v3 : Int32) (v4 : Int32) (v5 : Int32) (v6 : Int32) (v7 : Int32) (σ : Sg) : Option (Int32 × Sg) :=
  if v1 ≤ v7 then if v3 = 0 then j_lots_0_b170 v4 σ else j_lots_0_b170 v5 σ else j_lots_0_L62 k53 fu v1 v3 v4 v5 v6 v7 0 σ
def j_lots_0_L53 : Nat → Int32 → Int32 → Int32 → Int32 → Int32 → Int32 → Sg → Option (Int32 × Sg)
  | 0, _, _, _, _, _, _, _ => none
  | n + 1, v1, v3, v4, v5, v6, v7, σ => j_lots_0_H53 (j_lots_0_L53 n) v1 v3 v4 v5 v6 v7 σ
def j_lots_0_b41 (v1 : Int32) (v2 : Int32) (v3 : Int32) (σ : Sg) : Option (Int32 × Sg) :=
  j_lots_0_L53 fu v1 v3 0 0 v2 0 σ
def j_lots_0 (v1 : Int32) (v2 : Int32) (v3 : Int32) (σ : Sg) : Option (Int32 × Sg) :=
  if 1 ≤ v1 then if v1 ≤ 50 then if v3 = 0 then j_lots_0_b41 v1 v2 v3 σ else if v3 = 1 then j_lots_0_b41 v1 v2 v3 σ else bd (j_refused_0 (-2) σ) fun r1 σ1 => some (r1, σ1) else bd (j_refused_0 (-6) σ) fun r4 σ4 => some (r4, σ4) else bd (j_refused_0 (-4) σ) fun r6 σ6 => some (r6, σ6)
def j_list_0 (v1 : Int32) (v2 : Int32) (σ : Sg) : Option (Int32 × Sg) :=
  bd (j_isList_s v1 σ) fun r1 σ1 => if r1 = 0 then bd (j_refused_0 (-1) σ1) fun r8 σ8 => some (r8, σ8) else if v2 ≤ 40 then if 0 ≤ v2 then gd (inB v1 3) (bd (j_fillAII_x (13 + v1.toNatClampNeg) 0 σ1) fun _ σ3 => gd (inB v1 3) (some (1, si σ3 16 v1.toNatClampNeg v2))) else some ((-14), σ1) else bd (j_refused_0 (-6) σ1) fun r6 σ6 => some (r6, σ6)
def j_put_0 (v1 : Int32) (v2 : Int32) (v3 : Int32) (σ : Sg) : Option (Int32 × Sg) :=
  bd (j_isList_s v1 σ) fun r1 σ1 => if r1 = 0 then bd (j_refused_0 (-1) σ1) fun r8 σ8 => some (r8, σ8) else bd (j_isMissing_0 v1 σ1) fun r2 σ2 => if r2 = 0 then bd (j_isPlace_0 v1 v2 σ2) fun r3 σ3 => if r3 = 0 then some ((-13), σ3) else gd (inB v1 3) (gd (arB 0 (13 + v1.toNatClampNeg) v2) (some (1, si σ3 (13 + v1.toNatClampNeg) v2.toNatClampNeg v3))) else some ((-11), σ2)
def j_look_0_b54 (s0 : Int32) (σ : Sg) : Option (Int32 × Sg) :=
  some (s0, σ)
def j_look_0 (v1 : Int32) (v2 : Int32) (σ : Sg) : Option (Int32 × Sg) :=
  bd (j_isList_s v1 σ) fun r1 σ1 => if r1 = 0 then bd (j_refusedFar_0 (-1) σ1) fun r10 σ10 => some (r10, σ10) else bd (j_isMissing_0 v1 σ1) fun r2 σ2 => if r2 = 0 then bd (j_isPlace_0 v1 v2 σ2) fun r3 σ3 => if r3 = 0 then bd (j_refusedFar_0 (-13) σ3) fun r4 σ4 => j_look_0_b54 r4 σ4 else gd (inB v1 3) (gd (arB 0 (13 + v1.toNatClampNeg) v2) (j_look_0_b54 (σ3.1 (13 + v1.toNatClampNeg) v2.toNatClampNeg) σ3)) else bd (j_refusedFar_0 (-11) σ2) fun r8 σ8 => some (r8, σ8)
def j_lays_0_b15 (σ : Sg) : Option (Int32 × Sg) :=
  bd (j_refused_0 (-1) σ) fun r1 σ1 => some (r1, σ1)
def j_lays_0_b54 (σ : Sg) : Option (Int32 × Sg) :=
  some ((-13), σ)
def j_lays_0 (v1 : Int32) (v2 : Int32) (v3 : Int32) (σ : Sg) : Option (Int32 × Sg) :=
  bd (j_isList_s v1 σ) fun r1 σ1 => if r1 = 0 then j_lays_0_b15 σ1 else bd (j_isGroup_0 v3 σ1) fun r2 σ2 => if r2 = 0 then j_lays_0_b15 σ2 else bd (j_isMissing_0 v1 σ2) fun r3 σ3 => if r3 = 0 then if v2 < 0 then j_lays_0_b54 σ3 else gd (inB v1 3) (if v2 ≤ ((σ3.1 16 v1.toNatClampNeg) - (σ3.1 1 0)) then bd (j_looseAt_4 v3 σ3) fun r5 σ5 => bd (j_relation_5_17 r5 σ5) fun _ σ6 => gd (inB v1 3) (gd (cpB 17 (13 + v1.toNatClampNeg) 0 v2 (σ6.1 1 0)) (some ((scp σ6 17 (13 + v1.toNatClampNeg) 0 (v2.toNatClampNeg) ((σ6.1 1 0).toNatClampNeg)).1 1 0, scp σ6 17 (13 + v1.toNatClampNeg) 0 (v2.toNatClampNeg) ((σ6.1 1 0).toNatClampNeg)))) else j_lays_0_b54 σ3) else some ((-11), σ3)
def j_judge_0_b72 (v2 : Int32) (σ : Sg) : Option (Int32 × Sg) :=
  some (v2, σ)
def j_judge_0_H26 (k26 : Int32 → Int32 → Sg → Option (Int32 × Sg)) (v1 : Int32) (v2 : Int32) (σ : Sg) : Option (Int32 × Sg) :=
  gd (inB v1 3) (if (σ.1 16 v1.toNatClampNeg) ≤ v2 then some ((-9), σ) else bd (j_isQuantity_0 (v2 / 5) σ) fun r2 σ2 => if r2 = 0 then j_judge_0_b72 v2 σ2 else gd (inB v1 3) (gd (arB 0 (13 + v1.toNatClampNeg) v2) (gd (inB (v2 / 5) 8) (gd (arB 0 (69 + (v2 / 5).toNatClampNeg) (irm v2 5)) (if (σ2.1 (13 + v1.toNatClampNeg) v2.toNatClampNeg) = (σ2.1 (69 + (v2 / 5).toNatClampNeg) (irm v2 5).toNatClampNeg) then k26 v1 (v2 + 1) σ2 else j_judge_0_b72 v2 σ2)))))
def j_judge_0_L26 : Nat → Int32 → Int32 → Sg → Option (Int32 × Sg)
  | 0, _, _, _ => none
  | n + 1, v1, v2, σ => j_judge_0_H26 (j_judge_0_L26 n) v1 v2 σ
def j_judge_0 (v1 : Int32) (σ : Sg) : Option (Int32 × Sg) :=
  bd (j_isList_s v1 σ) fun r1 σ1 => if r1 = 0 then bd (j_refused_0 (-1) σ1) fun r4 σ4 => some (r4, σ4) else bd (j_isMissing_0 v1 σ1) fun r2 σ2 => if r2 = 0 then j_judge_0_L26 fu v1 0 σ2 else some ((-11), σ2)
def j_maxII_s_b10 (s0 : Int32) (σ : Sg) : Option (Int32 × Sg) :=
  some (s0, σ)
def j_maxII_s (v0 : Int32) (v1 : Int32) (σ : Sg) : Option (Int32 × Sg) :=
  if v0 < v1 then j_maxII_s_b10 v1 σ else j_maxII_s_b10 v0 σ
def j_takeBack_3_1_b103 (σ : Sg) : Option (Unit × Sg) :=
  some ((), σ)
def j_takeBack_3_1 (σ : Sg) : Option (Unit × Sg) :=
  bd (j_maxII_s (((si σ 3 1 (irm (((σ.1 3 1) + 20) - 1) 20)).1 3 2) - 1) 0 (si σ 3 1 (irm (((σ.1 3 1) + 20) - 1) 20))) fun r1 σ1 => gd (inB ((si σ1 3 2 r1).1 3 1) 20) (gd (arB 0 (48 + ((si σ1 3 2 r1).1 3 1).toNatClampNeg) 1) (gd (arB 0 (48 + ((si σ1 3 2 r1).1 3 1).toNatClampNeg) 0) (if ((si σ1 3 2 r1).1 (48 + ((si σ1 3 2 r1).1 3 1).toNatClampNeg) 0) = 0 then gd (inB ((si σ1 3 2 r1).1 (48 + ((si σ1 3 2 r1).1 3 1).toNatClampNeg) 1) 8) (gd (arB 0 (48 + ((si σ1 3 2 r1).1 3 1).toNatClampNeg) 2) (gd (arB 0 (48 + ((si σ1 3 2 r1).1 3 1).toNatClampNeg) 3) (gd (arB 0 (23 + ((si σ1 3 2 r1).1 (48 + ((si σ1 3 2 r1).1 3 1).toNatClampNeg) 1).toNatClampNeg) ((si σ1 3 2 r1).1 (48 + ((si σ1 3 2 r1).1 3 1).toNatClampNeg) 2)) (j_takeBack_3_1_b103 (si (si σ1 3 2 r1) (23 + ((si σ1 3 2 r1).1 (48 + ((si σ1 3 2 r1).1 3 1).toNatClampNeg) 1).toNatClampNeg) ((si σ1 3 2 r1).1 (48 + ((si σ1 3 2 r1).1 3 1).toNatClampNeg) 2).toNatClampNeg ((si σ1 3 2 r1).1 (48 + ((si σ1 3 2 r1).1 3 1).toNatClampNeg) 3)))))) else gd (arB 0 (48 + ((si σ1 3 2 r1).1 3 1).toNatClampNeg) 0) (if ((si σ1 3 2 r1).1 (48 + ((si σ1 3 2 r1).1 3 1).toNatClampNeg) 0) = 1 then gd (arB 0 (48 + ((si σ1 3 2 r1).1 3 1).toNatClampNeg) 2) (gd (inB ((si σ1 3 2 r1).1 (48 + ((si σ1 3 2 r1).1 3 1).toNatClampNeg) 1) 8) (j_takeBack_3_1_b103 (si (si σ1 3 2 r1) 21 ((si σ1 3 2 r1).1 (48 + ((si σ1 3 2 r1).1 3 1).toNatClampNeg) 1).toNatClampNeg ((si σ1 3 2 r1).1 (48 + ((si σ1 3 2 r1).1 3 1).toNatClampNeg) 2)))) else gd (arB 0 (48 + ((si σ1 3 2 r1).1 3 1).toNatClampNeg) 2) (gd (inB ((si σ1 3 2 r1).1 (48 + ((si σ1 3 2 r1).1 3 1).toNatClampNeg) 1) 8) (gd (arB 0 (48 + ((si σ1 3 2 r1).1 3 1).toNatClampNeg) 3) (gd (inB ((si σ1 3 2 r1).1 (48 + ((si σ1 3 2 r1).1 3 1).toNatClampNeg) 1) 8) (j_takeBack_3_1_b103 (si (si (si σ1 3 2 r1) 31 ((si σ1 3 2 r1).1 (48 + ((si σ1 3 2 r1).1 3 1).toNatClampNeg) 1).toNatClampNeg ((si σ1 3 2 r1).1 (48 + ((si σ1 3 2 r1).1 3 1).toNatClampNeg) 2)) 32 ((si σ1 3 2 r1).1 (48 + ((si σ1 3 2 r1).1 3 1).toNatClampNeg) 1).toNatClampNeg ((si (si σ1 3 2 r1) 31 ((si σ1 3 2 r1).1 (48 + ((si σ1 3 2 r1).1 3 1).toNatClampNeg) 1).toNatClampNeg ((si σ1 3 2 r1).1 (48 + ((si σ1 3 2 r1).1 3 1).toNatClampNeg) 2)).1 (48 + ((si σ1 3 2 r1).1 3 1).toNatClampNeg) 3))))))))))
def j_undo_0 (σ : Sg) : Option (Int32 × Sg) :=
  if (σ.1 3 2) = 0 then bd (j_refused_0 (-3) σ) fun r3 σ3 => some (r3, σ3) else bd (j_takeBack_3_1 σ) fun _ σ1 => bd (j_measure_4_1 σ1) fun _ σ2 => some (σ2.1 3 2, σ2)
def j_keepFormula_2_33 (v2 : Int32) (v3 : Int32) (σ : Sg) : Option (Unit × Sg) :=
  bd (j_minII_s v2 72 σ) fun r1 σ1 => gd (cpB 33 46 0 0 ((si σ1 2 6 r1).1 2 6)) (some ((), si (scp (si σ1 2 6 r1) 33 46 0 0 (((si σ1 2 6 r1).1 2 6).toNatClampNeg)) 2 7 v3))
def j_copyFrom_2_1_H10 (k10 : Int32 → Sg → Option (Unit × Sg)) (v2 : Int32) (σ : Sg) : Option (Unit × Sg) :=
  if (σ.1 2 0) ≤ v2 then bd (j_keepFormula_2_33 (σ.1 1 6) (σ.1 1 7) σ) fun _ σ1 => some ((), σ1) else gd (inB v2 8) (gd (inB v2 8) (gd (inB v2 8) (gd (inB v2 8) (gd (inB v2 8) (gd (inB v2 8) (gd (inB v2 8) (gd (inB v2 8) (gd (cpB (23 + v2.toNatClampNeg) (36 + v2.toNatClampNeg) 0 0 5) (k10 (v2 + 1) (scp (si (si (si σ 34 v2.toNatClampNeg (σ.1 21 v2.toNatClampNeg)) 44 v2.toNatClampNeg ((si σ 34 v2.toNatClampNeg (σ.1 21 v2.toNatClampNeg)).1 31 v2.toNatClampNeg)) 45 v2.toNatClampNeg ((si (si σ 34 v2.toNatClampNeg (σ.1 21 v2.toNatClampNeg)) 44 v2.toNatClampNeg ((si σ 34 v2.toNatClampNeg (σ.1 21 v2.toNatClampNeg)).1 31 v2.toNatClampNeg)).1 32 v2.toNatClampNeg)) (23 + v2.toNatClampNeg) (36 + v2.toNatClampNeg) 0 0 5))))))))))
def j_copyFrom_2_1_L10 : Nat → Int32 → Sg → Option (Unit × Sg)
  | 0, _, _ => none
  | n + 1, v2, σ => j_copyFrom_2_1_H10 (j_copyFrom_2_1_L10 n) v2 σ
def j_copyFrom_2_1 (σ : Sg) : Option (Unit × Sg) :=
  j_copyFrom_2_1_L10 fu 0 (si σ 2 0 (σ.1 1 0))
def j_image_0 (σ : Sg) : Option (Int32 × Sg) :=
  bd (j_copyFrom_2_1 σ) fun _ σ1 => some ((si σ1 0 2 1).1 1 0, si σ1 0 2 1)
def j_keepFormula_1_46 (v2 : Int32) (v3 : Int32) (σ : Sg) : Option (Unit × Sg) :=
  bd (j_minII_s v2 72 σ) fun r1 σ1 => gd (cpB 46 33 0 0 ((si σ1 1 6 r1).1 1 6)) (some ((), si (scp (si σ1 1 6 r1) 46 33 0 0 (((si σ1 1 6 r1).1 1 6).toNatClampNeg)) 1 7 v3))
def j_copyFrom_1_2_H10 (k10 : Int32 → Sg → Option (Unit × Sg)) (v2 : Int32) (σ : Sg) : Option (Unit × Sg) :=
  if (σ.1 1 0) ≤ v2 then bd (j_keepFormula_1_46 (σ.1 2 6) (σ.1 2 7) σ) fun _ σ1 => some ((), σ1) else gd (inB v2 8) (gd (inB v2 8) (gd (inB v2 8) (gd (inB v2 8) (gd (inB v2 8) (gd (inB v2 8) (gd (inB v2 8) (gd (inB v2 8) (gd (cpB (36 + v2.toNatClampNeg) (23 + v2.toNatClampNeg) 0 0 5) (k10 (v2 + 1) (scp (si (si (si σ 21 v2.toNatClampNeg (σ.1 34 v2.toNatClampNeg)) 31 v2.toNatClampNeg ((si σ 21 v2.toNatClampNeg (σ.1 34 v2.toNatClampNeg)).1 44 v2.toNatClampNeg)) 32 v2.toNatClampNeg ((si (si σ 21 v2.toNatClampNeg (σ.1 34 v2.toNatClampNeg)) 31 v2.toNatClampNeg ((si σ 21 v2.toNatClampNeg (σ.1 34 v2.toNatClampNeg)).1 44 v2.toNatClampNeg)).1 45 v2.toNatClampNeg)) (36 + v2.toNatClampNeg) (23 + v2.toNatClampNeg) 0 0 5))))))))))
def j_copyFrom_1_2_L10 : Nat → Int32 → Sg → Option (Unit × Sg)
  | 0, _, _ => none
  | n + 1, v2, σ => j_copyFrom_1_2_H10 (j_copyFrom_1_2_L10 n) v2 σ
def j_copyFrom_1_2 (σ : Sg) : Option (Unit × Sg) :=
  j_copyFrom_1_2_L10 fu 0 (si σ 1 0 (σ.1 2 0))
def j_on_0 (σ : Sg) : Option (Int32 × Sg) :=
  if (σ.1 0 2) = 0 then bd (j_refused_0 (-3) σ) fun r4 σ4 => some (r4, σ4) else bd (j_copyFrom_1_2 σ) fun _ σ1 => bd (j_forget_3 σ1) fun _ σ2 => bd (j_measure_4_1 σ2) fun _ σ3 => some (σ3.1 1 0, σ3)
def j_count_0_b87 (s0 : Int32) (σ : Sg) : Option (Int32 × Sg) :=
  some (s0, σ)
def j_count_0_b85 (σ : Sg) : Option (Int32 × Sg) :=
  j_count_0_b87 (-9) σ
def j_count_0 (v1 : Int32) (σ : Sg) : Option (Int32 × Sg) :=
  if v1 = 0 then some (σ.1 1 0, σ) else if v1 = 1 then some (σ.1 0 9, σ) else if v1 = 2 then bd (j_scaledSet_1 σ) fun r6 σ6 => some (r6, σ6) else if v1 = 3 then some (σ.1 1 7, σ) else if v1 = 4 then some (σ.1 3 2, σ) else if v1 < 11 then j_count_0_b85 σ else if 16 < v1 then j_count_0_b85 σ else gd (inB (v1 - 10) 7) (j_count_0_b87 (σ.1 20 (v1 - 10).toNatClampNeg) σ)
def m_refuse_10_b16 (v1 : Int32) (σ : Sg) : Option (Int32 × Sg) :=
  some (-v1, σ)
def m_refuse_10 (v1 : Int32) (σ : Sg) : Option (Int32 × Sg) :=
  if 6 < v1 then m_refuse_10_b16 v1 σ else gd (inB v1 7) (gd (inB v1 7) (m_refuse_10_b16 v1 (si σ 120 v1.toNatClampNeg ((σ.1 120 v1.toNatClampNeg) + 1))))
def m_letter_10_b26 (σ : Sg) : Option (Int32 × Sg) :=
  bd (m_refuse_10 6 σ) fun r1 σ1 => some (r1, σ1)
def m_letter_10 (v1 : Int32) (σ : Sg) : Option (Int32 × Sg) :=
  if 0 ≤ v1 then if 255 < v1 then m_letter_10_b26 σ else if (σ.1 10 5) = 72 then m_letter_10_b26 σ else gd (inB (σ.1 10 5) 72) (some ((si (si σ 121 (σ.1 10 5).toNatClampNeg v1) 10 5 (((si σ 121 (σ.1 10 5).toNatClampNeg v1).1 10 5) + 1)).1 10 5, si (si σ 121 (σ.1 10 5).toNatClampNeg v1) 10 5 (((si σ 121 (σ.1 10 5).toNatClampNeg v1).1 10 5) + 1))) else bd (m_refuse_10 4 σ) fun r4 σ4 => some (r4, σ4)
def m_isIn_s_b18 (s0 : Int32) (σ : Sg) : Option (Int32 × Sg) :=
  gd (nbB s0) (some (s0, σ))
def m_isIn_s_b17 (σ : Sg) : Option (Int32 × Sg) :=
  m_isIn_s_b18 0 σ
def m_isIn_s (v0 : Int64) (v2 : Int64) (v4 : Int64) (σ : Sg) : Option (Int32 × Sg) :=
  if (lg_cmp v0 v2) < 0 then m_isIn_s_b17 σ else if 0 < (lg_cmp v0 v4) then m_isIn_s_b17 σ else m_isIn_s_b18 1 σ
def m_quantity_10_H54 (k54 : Int32 → Int32 → Sg → Option (Int32 × Sg)) (v2 : Int32) (v3 : Int32) (σ : Sg) : Option (Int32 × Sg) :=
  if 5 ≤ v3 then gd (inB (49 + v2) 139) (gd (inB (57 + v2) 139) (some (v2, si (si (si (si σ 118 (49 + v2).toNatClampNeg 0) 118 (57 + v2).toNatClampNeg 0) 118 0 (((si (si σ 118 (49 + v2).toNatClampNeg 0) 118 (57 + v2).toNatClampNeg 0).1 118 0) + 1)) 10 7 0))) else gd (inB ((9 + (5 * v2)) + v3) 139) (k54 v2 (v3 + 1) (si σ 118 ((9 + (5 * v2)) + v3).toNatClampNeg 0))
def m_quantity_10_L54 : Nat → Int32 → Int32 → Sg → Option (Int32 × Sg)
  | 0, _, _, _ => none
  | n + 1, v2, v3, σ => m_quantity_10_H54 (m_quantity_10_L54 n) v2 v3 σ
def m_quantity_10 (v1 : Int32) (σ : Sg) : Option (Int32 × Sg) :=
  bd (m_isIn_s v1.toInt64 0 5 σ) fun r1 σ1 => if r1 = 0 then bd (m_refuse_10 2 σ1) fun r5 σ5 => some (r5, σ5) else if (σ1.1 118 0) = 8 then bd (m_refuse_10 6 σ1) fun r3 σ3 => some (r3, σ3) else gd (inB (1 + (σ1.1 118 0)) 139) (m_quantity_10_L54 fu (σ1.1 118 0) 0 (si σ1 118 (1 + (σ1.1 118 0)).toNatClampNeg v1))
def m_changes_10_b105 (s1 : Int32) (s2 : Int32) (σ : Sg) : Option (Unit × Sg) :=
  gd (inB s1 100) (some ((), si (si σ 122 s1.toNatClampNeg s2) 10 7 (((si σ 122 s1.toNatClampNeg s2).1 10 7) + 1)))
def m_changes_10_b47 (v1 : Int32) (v2 : Int32) (σ : Sg) : Option (Unit × Sg) :=
  gd (inB (5 * (σ.1 10 7)) 100) (gd (inB v1 139) (gd (inB ((5 * (σ.1 10 7)) + 1) 100) (gd (inB ((5 * (σ.1 10 7)) + 2) 100) (if 0 ≤ v2 then gd (inB v2 139) (m_changes_10_b105 ((5 * (σ.1 10 7)) + 3) ((si (si (si σ 122 (5 * (σ.1 10 7)).toNatClampNeg v1) 122 ((5 * (σ.1 10 7)) + 1).toNatClampNeg ((si σ 122 (5 * (σ.1 10 7)).toNatClampNeg v1).1 118 v1.toNatClampNeg)) 122 ((5 * (σ.1 10 7)) + 2).toNatClampNeg v2).1 118 v2.toNatClampNeg) (si (si (si σ 122 (5 * (σ.1 10 7)).toNatClampNeg v1) 122 ((5 * (σ.1 10 7)) + 1).toNatClampNeg ((si σ 122 (5 * (σ.1 10 7)).toNatClampNeg v1).1 118 v1.toNatClampNeg)) 122 ((5 * (σ.1 10 7)) + 2).toNatClampNeg v2)) else m_changes_10_b105 ((5 * (σ.1 10 7)) + 3) 0 (si (si (si σ 122 (5 * (σ.1 10 7)).toNatClampNeg v1) 122 ((5 * (σ.1 10 7)) + 1).toNatClampNeg ((si σ 122 (5 * (σ.1 10 7)).toNatClampNeg v1).1 118 v1.toNatClampNeg)) 122 ((5 * (σ.1 10 7)) + 2).toNatClampNeg v2)))))
def m_changes_10_H11 (k11 : Int32 → Int32 → Int32 → Sg → Option (Unit × Sg)) (v1 : Int32) (v2 : Int32) (v3 : Int32) (σ : Sg) : Option (Unit × Sg) :=
  if 100 ≤ v3 then m_changes_10_b47 v1 v2 (si σ 10 7 ((σ.1 10 7) - 1)) else gd (inB v3 100) (gd (inB (v3 - 5) 100) (k11 v1 v2 (v3 + 1) (si σ 122 (v3 - 5).toNatClampNeg (σ.1 122 v3.toNatClampNeg))))
def m_changes_10_L11 : Nat → Int32 → Int32 → Int32 → Sg → Option (Unit × Sg)
  | 0, _, _, _, _ => none
  | n + 1, v1, v2, v3, σ => m_changes_10_H11 (m_changes_10_L11 n) v1 v2 v3 σ
def m_changes_10 (v1 : Int32) (v2 : Int32) (σ : Sg) : Option (Unit × Sg) :=
  if (σ.1 10 7) = 20 then m_changes_10_L11 fu v1 v2 5 σ else m_changes_10_b47 v1 v2 σ
def m_isOne_10 (v1 : Int32) (σ : Sg) : Option (Int32 × Sg) :=
  bd (m_isIn_s v1.toInt64 0 (((σ.1 118 0) - 1).toInt64) σ) fun r1 σ1 => gd (nbB r1) (some (r1, σ1))
def m_isUnit_s (v0 : Int32) (σ : Sg) : Option (Int32 × Sg) :=
  bd (m_isIn_s v0.toInt64 0 4 σ) fun r1 σ1 => gd (nbB r1) (some (r1, σ1))
def m_refuseFar_10 (v1 : Int32) (σ : Sg) : Option (Int32 × Sg) :=
  bd (m_refuse_10 v1 σ) fun r1 σ1 => some (1000000000 - r1, σ1)
def m_tell_10_b15 (σ : Sg) : Option (Int32 × Sg) :=
  bd (m_refuseFar_10 1 σ) fun r1 σ1 => some (r1, σ1)
def m_tell_10 (v1 : Int32) (v2 : Int32) (v3 : Int32) (σ : Sg) : Option (Int32 × Sg) :=
  bd (m_isOne_10 v1 σ) fun r1 σ1 => if r1 = 0 then m_tell_10_b15 σ1 else bd (m_isUnit_s v2 σ1) fun r2 σ2 => if r2 = 0 then m_tell_10_b15 σ2 else if (-9) ≤ v3 then if v3 ≤ 9 then gd (inB ((9 + (5 * v1)) + v2) 139) (bd (m_changes_10 ((9 + (5 * v1)) + v2) (-1) σ2) fun _ σ4 => gd (inB ((9 + (5 * v1)) + v2) 139) (some (σ2.1 118 ((9 + (5 * v1)) + v2).toNatClampNeg, si σ4 118 ((9 + (5 * v1)) + v2).toNatClampNeg v3))) else bd (m_refuseFar_10 6 σ2) fun r6 σ6 => some (r6, σ6) else bd (m_refuseFar_10 4 σ2) fun r8 σ8 => some (r8, σ8)
def m_turn_10 (v1 : Int32) (v2 : Int32) (σ : Sg) : Option (Int32 × Sg) :=
  bd (m_isOne_10 v1 σ) fun r1 σ1 => if r1 = 0 then bd (m_refuse_10 1 σ1) fun r8 σ8 => some (r8, σ8) else bd (m_isIn_s v2.toInt64 0 5 σ1) fun r2 σ2 => if r2 = 0 then bd (m_refuse_10 2 σ2) fun r6 σ6 => some (r6, σ6) else gd (inB (1 + v1) 139) (bd (m_changes_10 (1 + v1) (-1) σ2) fun _ σ4 => gd (inB (1 + v1) 139) (some (σ2.1 118 (1 + v1).toNatClampNeg, si σ4 118 (1 + v1).toNatClampNeg v2)))
def m_swapRows_10_b67 (σ : Sg) : Option (Unit × Sg) :=
  some ((), σ)
def m_swapRows_10_H2 (k2 : Int32 → Int32 → Int32 → Sg → Option (Unit × Sg)) (v1 : Int32) (v2 : Int32) (v3 : Int32) (σ : Sg) : Option (Unit × Sg) :=
  if 9 ≤ v3 then m_swapRows_10_b67 σ else if v1 = v2 then m_swapRows_10_b67 σ else gd (inB ((9 * v1) + v3) 45) (gd (inB ((9 * v2) + v3) 45) (gd (inB ((9 * v1) + v3) 45) (gd (inB ((9 * v2) + v3) 45) (k2 v1 v2 (v3 + 1) (sl (sl σ 123 ((9 * v1) + v3).toNatClampNeg (σ.2 123 ((9 * v2) + v3).toNatClampNeg)) 123 ((9 * v2) + v3).toNatClampNeg (σ.2 123 ((9 * v1) + v3).toNatClampNeg))))))
def m_swapRows_10_L2 : Nat → Int32 → Int32 → Int32 → Sg → Option (Unit × Sg)
  | 0, _, _, _, _ => none
  | n + 1, v1, v2, v3, σ => m_swapRows_10_H2 (m_swapRows_10_L2 n) v1 v2 v3 σ
def m_swapRows_10 (v1 : Int32) (v2 : Int32) (σ : Sg) : Option (Unit × Sg) :=
  m_swapRows_10_L2 fu v1 v2 0 σ
def m_clears_10_b173 (k5 : Int32 → Int32 → Int64 → Int32 → Sg → Option (Int64 × Sg)) (k79 : Int32 → Int32 → Int64 → Int32 → Int64 → Int32 → Sg → Option (Int64 × Sg)) (v1 : Int32) (v2 : Int32) (v3 : Int64) (v5 : Int32) (v7 : Int64) (v9 : Int32) (σ : Sg) : Option (Int64 × Sg) :=
  k79 v1 v2 v3 v5 v7 (v9 + 1) σ
def m_clears_10_H113 (k5 : Int32 → Int32 → Int64 → Int32 → Sg → Option (Int64 × Sg)) (k79 : Int32 → Int32 → Int64 → Int32 → Int64 → Int32 → Sg → Option (Int64 × Sg)) (k113 : Int32 → Int32 → Int64 → Int32 → Int64 → Int32 → Int64 → Int32 → Sg → Option (Int64 × Sg)) (v1 : Int32) (v2 : Int32) (v3 : Int64) (v5 : Int32) (v7 : Int64) (v9 : Int32) (v10 : Int64) (v12 : Int32) (σ : Sg) : Option (Int64 × Sg) :=
  if v2 ≤ v12 then m_clears_10_b173 k5 k79 v1 v2 v3 v5 v7 v9 σ else gd (inB ((9 * v9) + v12) 45) (gd (inB ((9 * v5) + v12) 45) (gd (neBL v3) (gd (inB ((9 * v9) + v12) 45) (k113 v1 v2 v3 v5 v7 v9 v10 (v12 + 1) (sl σ 123 ((9 * v9) + v12).toNatClampNeg ((((σ.2 123 ((9 * v9) + v12).toNatClampNeg) * v7) - (v10 * (σ.2 123 ((9 * v5) + v12).toNatClampNeg))) / v3))))))
def m_clears_10_L113 (k5 : Int32 → Int32 → Int64 → Int32 → Sg → Option (Int64 × Sg)) (k79 : Int32 → Int32 → Int64 → Int32 → Int64 → Int32 → Sg → Option (Int64 × Sg)) : Nat → Int32 → Int32 → Int64 → Int32 → Int64 → Int32 → Int64 → Int32 → Sg → Option (Int64 × Sg)
  | 0, _, _, _, _, _, _, _, _, _ => none
  | n + 1, v1, v2, v3, v5, v7, v9, v10, v12, σ => m_clears_10_H113 k5 k79 (m_clears_10_L113 k5 k79 n) v1 v2 v3 v5 v7 v9 v10 v12 σ
def m_clears_10_H79 (k5 : Int32 → Int32 → Int64 → Int32 → Sg → Option (Int64 × Sg)) (k79 : Int32 → Int32 → Int64 → Int32 → Int64 → Int32 → Sg → Option (Int64 × Sg)) (v1 : Int32) (v2 : Int32) (v3 : Int64) (v5 : Int32) (v7 : Int64) (v9 : Int32) (σ : Sg) : Option (Int64 × Sg) :=
  if 5 ≤ v9 then k5 v1 v2 v7 (v5 + 1) σ else if v9 = v5 then m_clears_10_b173 k5 k79 v1 v2 v3 v5 v7 v9 σ else gd (inB ((9 * v9) + v5) 45) (m_clears_10_L113 k5 k79 fu v1 v2 v3 v5 v7 v9 (σ.2 123 ((9 * v9) + v5).toNatClampNeg) 0 σ)
def m_clears_10_L79 (k5 : Int32 → Int32 → Int64 → Int32 → Sg → Option (Int64 × Sg)) : Nat → Int32 → Int32 → Int64 → Int32 → Int64 → Int32 → Sg → Option (Int64 × Sg)
  | 0, _, _, _, _, _, _, _ => none
  | n + 1, v1, v2, v3, v5, v7, v9, σ => m_clears_10_H79 k5 (m_clears_10_L79 k5 n) v1 v2 v3 v5 v7 v9 σ
def m_clears_10_b45 (k5 : Int32 → Int32 → Int64 → Int32 → Sg → Option (Int64 × Sg)) (v1 : Int32) (v2 : Int32) (v3 : Int64) (v5 : Int32) (v6 : Int32) (σ : Sg) : Option (Int64 × Sg) :=
  if v6 < 5 then bd (m_swapRows_10 v5 v6 σ) fun _ σ1 => gd (inB ((9 * v5) + v5) 45) (m_clears_10_L79 k5 fu v1 v2 v3 v5 (σ1.2 123 ((9 * v5) + v5).toNatClampNeg) 0 σ1) else some (0, σ)
def m_clears_10_H15 (k5 : Int32 → Int32 → Int64 → Int32 → Sg → Option (Int64 × Sg)) (k15 : Int32 → Int32 → Int64 → Int32 → Int32 → Sg → Option (Int64 × Sg)) (v1 : Int32) (v2 : Int32) (v3 : Int64) (v5 : Int32) (v6 : Int32) (σ : Sg) : Option (Int64 × Sg) :=
  if 5 ≤ v6 then m_clears_10_b45 k5 v1 v2 v3 v5 v6 σ else gd (inB ((9 * v6) + v5) 45) (if (lg_cmp (σ.2 123 ((9 * v6) + v5).toNatClampNeg) 0) = 0 then k15 v1 v2 v3 v5 (v6 + 1) σ else m_clears_10_b45 k5 v1 v2 v3 v5 v6 σ)
def m_clears_10_L15 (k5 : Int32 → Int32 → Int64 → Int32 → Sg → Option (Int64 × Sg)) : Nat → Int32 → Int32 → Int64 → Int32 → Int32 → Sg → Option (Int64 × Sg)
  | 0, _, _, _, _, _, _ => none
  | n + 1, v1, v2, v3, v5, v6, σ => m_clears_10_H15 k5 (m_clears_10_L15 k5 n) v1 v2 v3 v5 v6 σ
def m_clears_10_H5 (k5 : Int32 → Int32 → Int64 → Int32 → Sg → Option (Int64 × Sg)) (v1 : Int32) (v2 : Int32) (v3 : Int64) (v5 : Int32) (σ : Sg) : Option (Int64 × Sg) :=
  if v1 ≤ v5 then some (v3, σ) else m_clears_10_L15 k5 fu v1 v2 v3 v5 v5 σ
def m_clears_10_L5 : Nat → Int32 → Int32 → Int64 → Int32 → Sg → Option (Int64 × Sg)
  | 0, _, _, _, _, _ => none
  | n + 1, v1, v2, v3, v5, σ => m_clears_10_H5 (m_clears_10_L5 n) v1 v2 v3 v5 σ
def m_clears_10 (v1 : Int32) (v2 : Int32) (σ : Sg) : Option (Int64 × Sg) :=
  m_clears_10_L5 fu v1 v2 1 0 σ
def m_common_s_H28 (k28 : Int64 → Int64 → Sg → Option (Int64 × Sg)) (v4 : Int64) (v6 : Int64) (σ : Sg) : Option (Int64 × Sg) :=
  if (lg_cmp v6 0) = 0 then some (v4, σ) else gd (neBL v6) (k28 v6 (lrm v4 v6) σ)
def m_common_s_L28 : Nat → Int64 → Int64 → Sg → Option (Int64 × Sg)
  | 0, _, _, _ => none
  | n + 1, v4, v6, σ => m_common_s_H28 (m_common_s_L28 n) v4 v6 σ
def m_common_s_b26 (v4 : Int64) (s0 : Int64) (σ : Sg) : Option (Int64 × Sg) :=
  m_common_s_L28 fu v4 s0 σ
def m_common_s_b12 (v2 : Int64) (s0 : Int64) (σ : Sg) : Option (Int64 × Sg) :=
  if 0 ≤ (lg_cmp v2 0) then m_common_s_b26 s0 v2 σ else m_common_s_b26 s0 (-v2) σ
def m_common_s (v0 : Int64) (v2 : Int64) (σ : Sg) : Option (Int64 × Sg) :=
  if 0 ≤ (lg_cmp v0 0) then m_common_s_b12 v2 v0 σ else m_common_s_b12 v2 (-v0) σ
def m_has_s_b14 (s0 : Int32) (σ : Sg) : Option (Int32 × Sg) :=
  gd (nbB s0) (some (s0, σ))
def m_has_s (v0 : Int32) (v1 : Int32) (σ : Sg) : Option (Int32 × Sg) :=
  if ((v0 >>> (v1 &&& 31)) &&& 1) = 1 then m_has_s_b14 1 σ else m_has_s_b14 0 σ
def m_powerOf_10_b68 (s0 : Int32) (σ : Sg) : Option (Int32 × Sg) :=
  some (s0, σ)
def m_powerOf_10_b81 (s0 : Int32) (σ : Sg) : Option (Int32 × Sg) :=
  some (s0, σ)
def m_powerOf_10_b105 (s0 : Int32) (σ : Sg) : Option (Int32 × Sg) :=
  some (s0, σ)
def m_powerOf_10_b124 (s0 : Int32) (σ : Sg) : Option (Int32 × Sg) :=
  some (s0, σ)
def m_powerOf_10 (v1 : Int32) (v2 : Int32) (σ : Sg) : Option (Int32 × Sg) :=
  gd (inB ((9 + (5 * v1)) + v2) 139) (gd (inB (1 + v1) 139) (if (σ.1 118 (1 + v1).toNatClampNeg) = 1 then if v2 = 2 then m_powerOf_10_b68 ((σ.1 118 ((9 + (5 * v1)) + v2).toNatClampNeg) - 1) σ else m_powerOf_10_b68 (σ.1 118 ((9 + (5 * v1)) + v2).toNatClampNeg) σ else if (σ.1 118 (1 + v1).toNatClampNeg) = 2 then if v2 = 1 then m_powerOf_10_b81 ((σ.1 118 ((9 + (5 * v1)) + v2).toNatClampNeg) - 1) σ else m_powerOf_10_b81 (σ.1 118 ((9 + (5 * v1)) + v2).toNatClampNeg) σ else if (σ.1 118 (1 + v1).toNatClampNeg) = 3 then if v2 = 1 then m_powerOf_10_b105 ((σ.1 118 ((9 + (5 * v1)) + v2).toNatClampNeg) - 2) σ else if v2 = 2 then m_powerOf_10_b105 ((σ.1 118 ((9 + (5 * v1)) + v2).toNatClampNeg) - 1) σ else m_powerOf_10_b105 (σ.1 118 ((9 + (5 * v1)) + v2).toNatClampNeg) σ else if (σ.1 118 (1 + v1).toNatClampNeg) = 4 then some (0, σ) else if (σ.1 118 (1 + v1).toNatClampNeg) = 5 then if v2 = 1 then m_powerOf_10_b124 ((2 * (σ.1 118 ((9 + (5 * v1)) + v2).toNatClampNeg)) - 2) σ else m_powerOf_10_b124 (2 * (σ.1 118 ((9 + (5 * v1)) + v2).toNatClampNeg)) σ else some (σ.1 118 ((9 + (5 * v1)) + v2).toNatClampNeg, σ)))
def m_lays2_10_b112 (v3 : Int32) (σ : Sg) : Option (Int32 × Sg) :=
  some (v3, σ)
def m_lays2_10_H76 (k76 : Int32 → Int32 → Int32 → Sg → Option (Int32 × Sg)) (v2 : Int32) (v3 : Int32) (v4 : Int32) (σ : Sg) : Option (Int32 × Sg) :=
  if 5 ≤ v4 then m_lays2_10_b112 v3 σ else if v2 < 0 then m_lays2_10_b112 v3 σ else bd (m_powerOf_10 v2 v4 σ) fun r1 σ1 => gd (inB ((9 * v4) + v3) 45) (k76 v2 v3 (v4 + 1) (sl σ1 123 ((9 * v4) + v3).toNatClampNeg r1.toInt64))
def m_lays2_10_L76 : Nat → Int32 → Int32 → Int32 → Sg → Option (Int32 × Sg)
  | 0, _, _, _, _ => none
  | n + 1, v2, v3, v4, σ => m_lays2_10_H76 (m_lays2_10_L76 n) v2 v3 v4 σ
def m_lays2_10_b67 (k5 : Int32 → Int32 → Int32 → Int32 → Sg → Option (Int32 × Sg)) (v1 : Int32) (v2 : Int32) (v3 : Int32) (v4 : Int32) (σ : Sg) : Option (Int32 × Sg) :=
  k5 v1 v2 v3 (v4 + 1) σ
def m_lays2_10_H31 (k5 : Int32 → Int32 → Int32 → Int32 → Sg → Option (Int32 × Sg)) (k31 : Int32 → Int32 → Int32 → Int32 → Int32 → Sg → Option (Int32 × Sg)) (v1 : Int32) (v2 : Int32) (v3 : Int32) (v4 : Int32) (v5 : Int32) (σ : Sg) : Option (Int32 × Sg) :=
  if 5 ≤ v5 then m_lays2_10_b67 k5 v1 v2 (v3 + 1) v4 σ else bd (m_powerOf_10 v4 v5 σ) fun r1 σ1 => gd (inB ((9 * v5) + v3) 45) (k31 v1 v2 v3 v4 (v5 + 1) (sl σ1 123 ((9 * v5) + v3).toNatClampNeg r1.toInt64))
def m_lays2_10_L31 (k5 : Int32 → Int32 → Int32 → Int32 → Sg → Option (Int32 × Sg)) : Nat → Int32 → Int32 → Int32 → Int32 → Int32 → Sg → Option (Int32 × Sg)
  | 0, _, _, _, _, _, _ => none
  | n + 1, v1, v2, v3, v4, v5, σ => m_lays2_10_H31 k5 (m_lays2_10_L31 k5 n) v1 v2 v3 v4 v5 σ
def m_lays2_10_H5 (k5 : Int32 → Int32 → Int32 → Int32 → Sg → Option (Int32 × Sg)) (v1 : Int32) (v2 : Int32) (v3 : Int32) (v4 : Int32) (σ : Sg) : Option (Int32 × Sg) :=
  if (σ.1 118 0) ≤ v4 then m_lays2_10_L76 fu v2 v3 0 σ else bd (m_has_s v1 v4 σ) fun r1 σ1 => if r1 = 0 then m_lays2_10_b67 k5 v1 v2 v3 v4 σ1 else m_lays2_10_L31 k5 fu v1 v2 v3 v4 0 σ1
def m_lays2_10_L5 : Nat → Int32 → Int32 → Int32 → Int32 → Sg → Option (Int32 × Sg)
  | 0, _, _, _, _, _ => none
  | n + 1, v1, v2, v3, v4, σ => m_lays2_10_H5 (m_lays2_10_L5 n) v1 v2 v3 v4 σ
def m_lays2_10 (v1 : Int32) (v2 : Int32) (σ : Sg) : Option (Int32 × Sg) :=
  m_lays2_10_L5 fu v1 v2 0 0 σ
def m_isHad_10_b175 (k112 : Int32 → Int32 → Int32 → Int64 → Int64 → Int32 → Int32 → Sg → Option (Int32 × Sg)) (v1 : Int32) (v2 : Int32) (v3 : Int32) (v4 : Int64) (v6 : Int64) (v9 : Int32) (s0 : Int32) (s1 : Int32) (σ : Sg) : Option (Int32 × Sg) :=
  k112 v1 v2 v3 v4 v6 (s0 + s1) (v9 + 1) σ
def m_isHad_10_b158 (k112 : Int32 → Int32 → Int32 → Int64 → Int64 → Int32 → Int32 → Sg → Option (Int32 × Sg)) (v1 : Int32) (v2 : Int32) (v3 : Int32) (v4 : Int64) (v6 : Int64) (v8 : Int32) (v9 : Int32) (s1 : Int32) (s2 : Int64) (σ : Sg) : Option (Int32 × Sg) :=
  gd (inB s1 8) (bd (m_has_s v1 v9 (sl σ 124 s1.toNatClampNeg s2)) fun r2 σ2 => if r2 = 0 then m_isHad_10_b175 k112 v1 v2 v3 v4 v6 v9 v8 0 σ2 else m_isHad_10_b175 k112 v1 v2 v3 v4 v6 v9 v8 1 σ2)
def m_isHad_10_H112 (k112 : Int32 → Int32 → Int32 → Int64 → Int64 → Int32 → Int32 → Sg → Option (Int32 × Sg)) (v1 : Int32) (v2 : Int32) (v3 : Int32) (v4 : Int64) (v6 : Int64) (v8 : Int32) (v9 : Int32) (σ : Sg) : Option (Int32 × Sg) :=
  if (σ.1 118 0) ≤ v9 then gd (neBL v6) (gd (inB v2 8) (some (1, sl σ 124 v2.toNatClampNeg (v4 / v6)))) else bd (m_has_s v1 v9 σ) fun r3 σ3 => if r3 = 0 then m_isHad_10_b158 k112 v1 v2 v3 v4 v6 v8 v9 v9 0 σ3 else gd (inB ((9 * v8) + v3) 45) (gd (neBL v6) (m_isHad_10_b158 k112 v1 v2 v3 v4 v6 v8 v9 v9 ((-(σ3.2 123 ((9 * v8) + v3).toNatClampNeg)) / v6) σ3))
def m_isHad_10_L112 : Nat → Int32 → Int32 → Int32 → Int64 → Int64 → Int32 → Int32 → Sg → Option (Int32 × Sg)
  | 0, _, _, _, _, _, _, _, _ => none
  | n + 1, v1, v2, v3, v4, v6, v8, v9, σ => m_isHad_10_H112 (m_isHad_10_L112 n) v1 v2 v3 v4 v6 v8 v9 σ
def m_isHad_10_b104 (v1 : Int32) (v2 : Int32) (v3 : Int32) (v4 : Int64) (s0 : Int64) (σ : Sg) : Option (Int32 × Sg) :=
  m_isHad_10_L112 fu v1 v2 v3 v4 s0 0 0 σ
def m_isHad_10_H58 (k58 : Int32 → Int32 → Int32 → Int64 → Int64 → Int32 → Sg → Option (Int32 × Sg)) (v1 : Int32) (v2 : Int32) (v3 : Int32) (v4 : Int64) (v6 : Int64) (v8 : Int32) (σ : Sg) : Option (Int32 × Sg) :=
  if v3 ≤ v8 then if 0 ≤ (lg_cmp v4 0) then m_isHad_10_b104 v1 v2 v3 v4 v6 σ else m_isHad_10_b104 v1 v2 v3 v4 (-v6) σ else gd (inB ((9 * v8) + v3) 45) (bd (m_common_s v6 (σ.2 123 ((9 * v8) + v3).toNatClampNeg) σ) fun r3 σ3 => k58 v1 v2 v3 v4 r3 (v8 + 1) σ3)
def m_isHad_10_L58 : Nat → Int32 → Int32 → Int32 → Int64 → Int64 → Int32 → Sg → Option (Int32 × Sg)
  | 0, _, _, _, _, _, _, _ => none
  | n + 1, v1, v2, v3, v4, v6, v8, σ => m_isHad_10_H58 (m_isHad_10_L58 n) v1 v2 v3 v4 v6 v8 σ
def m_isHad_10_H20 (k20 : Int32 → Int32 → Int32 → Int64 → Int32 → Sg → Option (Int32 × Sg)) (v1 : Int32) (v2 : Int32) (v3 : Int32) (v4 : Int64) (v6 : Int32) (σ : Sg) : Option (Int32 × Sg) :=
  if 5 ≤ v6 then m_isHad_10_L58 fu v1 v2 v3 v4 v4 0 σ else gd (inB ((9 * v6) + v3) 45) (if (lg_cmp (σ.2 123 ((9 * v6) + v3).toNatClampNeg) 0) = 0 then k20 v1 v2 v3 v4 (v6 + 1) σ else some (0, σ))
def m_isHad_10_L20 : Nat → Int32 → Int32 → Int32 → Int64 → Int32 → Sg → Option (Int32 × Sg)
  | 0, _, _, _, _, _, _ => none
  | n + 1, v1, v2, v3, v4, v6, σ => m_isHad_10_H20 (m_isHad_10_L20 n) v1 v2 v3 v4 v6 σ
def m_isHad_10 (v1 : Int32) (v2 : Int32) (σ : Sg) : Option (Int32 × Sg) :=
  bd (m_lays2_10 v1 v2 σ) fun r1 σ1 => bd (m_clears_10 r1 (r1 + 1) σ1) fun r2 σ2 => m_isHad_10_L20 fu v1 v2 r1 r2 r1 σ2
def m_firm_10_b31 (k4 : Int32 → Int32 → Sg → Option (Int32 × Sg)) (v2 : Int32) (s0 : Int32) (s1 : Int32) (σ : Sg) : Option (Int32 × Sg) :=
  k4 (s0 ||| s1) (v2 + 1) σ
def m_firm_10_H4 (k4 : Int32 → Int32 → Sg → Option (Int32 × Sg)) (v1 : Int32) (v2 : Int32) (σ : Sg) : Option (Int32 × Sg) :=
  if (σ.1 118 0) ≤ v2 then some (v1, σ) else bd (m_isHad_10 v1 v2 σ) fun r1 σ1 => if r1 = 0 then m_firm_10_b31 k4 v2 v1 ((1 : Int32) <<< (v2 &&& 31)) σ1 else m_firm_10_b31 k4 v2 v1 0 σ1
def m_firm_10_L4 : Nat → Int32 → Int32 → Sg → Option (Int32 × Sg)
  | 0, _, _, _ => none
  | n + 1, v1, v2, σ => m_firm_10_H4 (m_firm_10_L4 n) v1 v2 σ
def m_firm_10 (σ : Sg) : Option (Int32 × Sg) :=
  m_firm_10_L4 fu 0 0 σ
def m_isPure_10_b24 (k4 : Int32 → Int32 → Int32 → Sg → Option (Int32 × Sg)) (v1 : Int32) (v3 : Int32) (s0 : Int32) (s1 : Int32) (σ : Sg) : Option (Int32 × Sg) :=
  k4 v1 (s0 &&& s1) (v3 + 1) σ
def m_isPure_10_H4 (k4 : Int32 → Int32 → Int32 → Sg → Option (Int32 × Sg)) (v1 : Int32) (v2 : Int32) (v3 : Int32) (σ : Sg) : Option (Int32 × Sg) :=
  if 5 ≤ v3 then gd (nbB v2) (some (v2, σ)) else bd (m_powerOf_10 v1 v3 σ) fun r1 σ1 => if r1 = 0 then m_isPure_10_b24 k4 v1 v3 v2 1 σ1 else m_isPure_10_b24 k4 v1 v3 v2 0 σ1
def m_isPure_10_L4 : Nat → Int32 → Int32 → Int32 → Sg → Option (Int32 × Sg)
  | 0, _, _, _, _ => none
  | n + 1, v1, v2, v3, σ => m_isPure_10_H4 (m_isPure_10_L4 n) v1 v2 v3 σ
def m_isPure_10 (v1 : Int32) (σ : Sg) : Option (Int32 × Sg) :=
  m_isPure_10_L4 fu v1 1 0 σ
def m_of_10_b130 (s0 : Int32) (σ : Sg) : Option (Int32 × Sg) :=
  some (s0, σ)
def m_of_10_b67 (s0 : Int32) (σ : Sg) : Option (Int32 × Sg) :=
  some (s0, σ)
def m_of_10_b48 (s0 : Int32) (σ : Sg) : Option (Int32 × Sg) :=
  some (s0, σ)
def m_of_10 (v1 : Int32) (v2 : Int32) (σ : Sg) : Option (Int32 × Sg) :=
  bd (m_isOne_10 v1 σ) fun r1 σ1 => if r1 = 0 then bd (m_refuseFar_10 1 σ1) fun r18 σ18 => some (r18, σ18) else if v2 = 0 then gd (inB (1 + v1) 139) (some (σ1.1 118 (1 + v1).toNatClampNeg, σ1)) else if v2 = 1 then bd (m_firm_10 σ1) fun r12 σ12 => bd (m_has_s r12 v1 σ12) fun r13 σ13 => if r13 = 0 then m_of_10_b48 1 σ13 else m_of_10_b48 0 σ13 else if v2 = 2 then bd (m_isPure_10 v1 σ1) fun r9 σ9 => if r9 = 0 then m_of_10_b67 0 σ9 else m_of_10_b67 1 σ9 else bd (m_isIn_s v2.toInt64 10 14 σ1) fun r2 σ2 => if r2 = 0 then bd (m_isIn_s v2.toInt64 20 24 σ2) fun r3 σ3 => if r3 = 0 then bd (m_refuseFar_10 2 σ3) fun r4 σ4 => m_of_10_b130 r4 σ4 else bd (m_powerOf_10 v1 (v2 - 20) σ3) fun r5 σ5 => m_of_10_b130 r5 σ5 else gd (inB (((9 + (5 * v1)) + v2) - 10) 139) (some (σ2.1 118 (((9 + (5 * v1)) + v2) - 10).toNatClampNeg, σ2))
def m_isLike_10_b34 (k5 : Int32 → Int32 → Int32 → Int32 → Sg → Option (Int32 × Sg)) (v1 : Int32) (v2 : Int32) (v4 : Int32) (s0 : Int32) (s1 : Int32) (σ : Sg) : Option (Int32 × Sg) :=
  k5 v1 v2 (s0 &&& s1) (v4 + 1) σ
def m_isLike_10_H5 (k5 : Int32 → Int32 → Int32 → Int32 → Sg → Option (Int32 × Sg)) (v1 : Int32) (v2 : Int32) (v3 : Int32) (v4 : Int32) (σ : Sg) : Option (Int32 × Sg) :=
  if 5 ≤ v4 then gd (nbB v3) (some (v3, σ)) else bd (m_powerOf_10 v1 v4 σ) fun r1 σ1 => bd (m_powerOf_10 v2 v4 σ1) fun r2 σ2 => if r1 = r2 then m_isLike_10_b34 k5 v1 v2 v4 v3 1 σ2 else m_isLike_10_b34 k5 v1 v2 v4 v3 0 σ2
def m_isLike_10_L5 : Nat → Int32 → Int32 → Int32 → Int32 → Sg → Option (Int32 × Sg)
  | 0, _, _, _, _, _ => none
  | n + 1, v1, v2, v3, v4, σ => m_isLike_10_H5 (m_isLike_10_L5 n) v1 v2 v3 v4 σ
def m_isLike_10 (v1 : Int32) (v2 : Int32) (σ : Sg) : Option (Int32 × Sg) :=
  m_isLike_10_L5 fu v1 v2 1 0 σ
def m_twinOf_10_b28 (k2 : Int32 → Int32 → Sg → Option (Int32 × Sg)) (v1 : Int32) (v2 : Int32) (σ : Sg) : Option (Int32 × Sg) :=
  k2 v1 (v2 + 1) σ
def m_twinOf_10_H2 (k2 : Int32 → Int32 → Sg → Option (Int32 × Sg)) (v1 : Int32) (v2 : Int32) (σ : Sg) : Option (Int32 × Sg) :=
  if (σ.1 118 0) ≤ v2 then some ((-9), σ) else if v2 = v1 then m_twinOf_10_b28 k2 v1 v2 σ else bd (m_isLike_10 v2 v1 σ) fun r1 σ1 => if r1 = 0 then m_twinOf_10_b28 k2 v1 v2 σ1 else some (v2, σ1)
def m_twinOf_10_L2 : Nat → Int32 → Int32 → Sg → Option (Int32 × Sg)
  | 0, _, _, _ => none
  | n + 1, v1, v2, σ => m_twinOf_10_H2 (m_twinOf_10_L2 n) v1 v2 σ
def m_twinOf_10 (v1 : Int32) (σ : Sg) : Option (Int32 × Sg) :=
  m_twinOf_10_L2 fu v1 0 σ
def m_twin_10_b21 (s0 : Int32) (σ : Sg) : Option (Int32 × Sg) :=
  some (s0, σ)
def m_twin_10 (v1 : Int32) (σ : Sg) : Option (Int32 × Sg) :=
  bd (m_isOne_10 v1 σ) fun r1 σ1 => if r1 = 0 then bd (m_refuse_10 1 σ1) fun r2 σ2 => m_twin_10_b21 r2 σ2 else bd (m_twinOf_10 v1 σ1) fun r3 σ3 => m_twin_10_b21 r3 σ3
def m_isUnder_s_b34 (s0 : Int32) (σ : Sg) : Option (Int32 × Sg) :=
  gd (nbB s0) (some (s0, σ))
def m_isUnder_s_b29 (σ : Sg) : Option (Int32 × Sg) :=
  m_isUnder_s_b34 1 σ
def m_isUnder_s_b33 (σ : Sg) : Option (Int32 × Sg) :=
  m_isUnder_s_b34 0 σ
def m_isUnder_s_b19 (v0 : Int32) (v1 : Int32) (σ : Sg) : Option (Int32 × Sg) :=
  if v0 = 5 then if v1 = 2 then m_isUnder_s_b29 σ else m_isUnder_s_b33 σ else m_isUnder_s_b33 σ
def m_isUnder_s (v0 : Int32) (v1 : Int32) (σ : Sg) : Option (Int32 × Sg) :=
  if v1 = 0 then m_isUnder_s_b29 σ else if v0 = v1 then m_isUnder_s_b29 σ else if v0 = 3 then if v1 = 1 then m_isUnder_s_b29 σ else m_isUnder_s_b19 v0 v1 σ else m_isUnder_s_b19 v0 v1 σ
def m_taken_10_b64 (s0 : Int32) (σ : Sg) : Option (Int32 × Sg) :=
  some (s0, σ)
def m_taken_10 (v1 : Int32) (v2 : Int32) (σ : Sg) : Option (Int32 × Sg) :=
  bd (m_isOne_10 v1 σ) fun r1 σ1 => if r1 = 0 then bd (m_refuse_10 1 σ1) fun r10 σ10 => some (r10, σ10) else bd (m_isIn_s v2.toInt64 0 5 σ1) fun r2 σ2 => if r2 = 0 then bd (m_refuse_10 2 σ2) fun r8 σ8 => some (r8, σ8) else gd (inB (1 + v1) 139) (bd (m_isUnder_s (σ2.1 118 (1 + v1).toNatClampNeg) v2 σ2) fun r4 σ4 => if r4 = 0 then bd (m_refuse_10 16 σ4) fun r5 σ5 => m_taken_10_b64 r5 σ5 else gd (inB (1 + v1) 139) (m_taken_10_b64 (σ4.1 118 (1 + v1).toNatClampNeg) σ4))
def m_bits_s_H4 (k4 : Int32 → Int32 → Sg → Option (Int32 × Sg)) (v1 : Int32) (v2 : Int32) (σ : Sg) : Option (Int32 × Sg) :=
  if v2 = 0 then some (v1, σ) else k4 (v1 + 1) (v2 &&& (v2 - 1)) σ
def m_bits_s_L4 : Nat → Int32 → Int32 → Sg → Option (Int32 × Sg)
  | 0, _, _, _ => none
  | n + 1, v1, v2, σ => m_bits_s_H4 (m_bits_s_L4 n) v1 v2 σ
def m_bits_s (v0 : Int32) (σ : Sg) : Option (Int32 × Sg) :=
  m_bits_s_L4 fu 0 v0 σ
def m_different_10_b37 (k4 : Int32 → Int32 → Sg → Option (Int32 × Sg)) (v2 : Int32) (s0 : Int32) (s1 : Int32) (σ : Sg) : Option (Int32 × Sg) :=
  k4 (s0 + s1) (v2 + 1) σ
def m_different_10_b32 (k4 : Int32 → Int32 → Sg → Option (Int32 × Sg)) (v2 : Int32) (s0 : Int32) (σ : Sg) : Option (Int32 × Sg) :=
  m_different_10_b37 k4 v2 s0 1 σ
def m_different_10_H4 (k4 : Int32 → Int32 → Sg → Option (Int32 × Sg)) (v1 : Int32) (v2 : Int32) (σ : Sg) : Option (Int32 × Sg) :=
  if (σ.1 118 0) ≤ v2 then some (v1, σ) else bd (m_twinOf_10 v2 σ) fun r1 σ1 => if r1 = (-9) then m_different_10_b32 k4 v2 v1 σ1 else if r1 ≤ v2 then m_different_10_b37 k4 v2 v1 0 σ1 else m_different_10_b32 k4 v2 v1 σ1
def m_different_10_L4 : Nat → Int32 → Int32 → Sg → Option (Int32 × Sg)
  | 0, _, _, _ => none
  | n + 1, v1, v2, σ => m_different_10_H4 (m_different_10_L4 n) v1 v2 σ
def m_different_10 (σ : Sg) : Option (Int32 × Sg) :=
  m_different_10_L4 fu 0 0 σ
def m_loose_10 (σ : Sg) : Option (Int32 × Sg) :=
  bd (m_firm_10 σ) fun r1 σ1 => some ((((1 : Int32) <<< ((σ.1 118 0) &&& 31)) - 1) &&& (r1 ^^^ (-1)), σ1)
def m_rank_10 (v1 : Int32) (σ : Sg) : Option (Int32 × Sg) :=
  if v1 = 0 then bd (m_firm_10 σ) fun r2 σ2 => bd (m_bits_s r2 σ2) fun r3 σ3 => some (r3, σ3) else if v1 = 1 then bd (m_loose_10 σ) fun r5 σ5 => bd (m_bits_s r5 σ5) fun r6 σ6 => some (r6, σ6) else if v1 = 2 then bd (m_loose_10 σ) fun r8 σ8 => some (r8, σ8) else if v1 = 3 then bd (m_different_10 σ) fun r10 σ10 => some (r10, σ10) else bd (m_refuse_10 2 σ) fun r11 σ11 => some (r11, σ11)
def m_groups_10 (v1 : Int32) (σ : Sg) : Option (Unit × Sg) :=
  bd (m_firm_10 σ) fun r1 σ1 => bd (m_isHad_10 (r1 &&& (((1 : Int32) <<< (v1 &&& 31)) - 1)) v1 σ1) fun r2 σ2 => some ((), σ2)
def m_ownOf_10_b50 (σ : Sg) : Option (Int32 × Sg) :=
  some ((-1), σ)
def m_ownOf_10_b44 (k10 : Int32 → Int32 → Int32 → Int32 → Sg → Option (Int32 × Sg)) (v1 : Int32) (v2 : Int32) (v3 : Int32) (v4 : Int32) (σ : Sg) : Option (Int32 × Sg) :=
  k10 v1 v2 v3 (v4 + 1) σ
def m_ownOf_10_H10 (k10 : Int32 → Int32 → Int32 → Int32 → Sg → Option (Int32 × Sg)) (v1 : Int32) (v2 : Int32) (v3 : Int32) (v4 : Int32) (σ : Sg) : Option (Int32 × Sg) :=
  if (σ.1 118 0) ≤ v4 then m_ownOf_10_b50 σ else if v1 < 0 then m_ownOf_10_b50 σ else bd (m_has_s v3 v4 σ) fun r1 σ1 => if r1 = 0 then m_ownOf_10_b44 k10 v1 v2 v3 v4 σ1 else if v2 = 0 then some (v4, σ1) else m_ownOf_10_b44 k10 v1 (v2 + (-1)) v3 v4 σ1
def m_ownOf_10_L10 : Nat → Int32 → Int32 → Int32 → Int32 → Sg → Option (Int32 × Sg)
  | 0, _, _, _, _, _ => none
  | n + 1, v1, v2, v3, v4, σ => m_ownOf_10_H10 (m_ownOf_10_L10 n) v1 v2 v3 v4 σ
def m_ownOf_10 (v1 : Int32) (σ : Sg) : Option (Int32 × Sg) :=
  bd (m_loose_10 σ) fun r1 σ1 => m_ownOf_10_L10 fu v1 v1 r1 0 σ1
def m_group_10_b18 (σ : Sg) : Option (Int32 × Sg) :=
  bd (m_refuseFar_10 1 σ) fun r1 σ1 => some (r1, σ1)
def m_group_10 (v1 : Int32) (v2 : Int32) (σ : Sg) : Option (Int32 × Sg) :=
  bd (m_ownOf_10 v1 σ) fun r1 σ1 => if r1 < 0 then m_group_10_b18 σ1 else bd (m_isOne_10 v2 σ1) fun r2 σ2 => if r2 = 0 then m_group_10_b18 σ2 else bd (m_groups_10 r1 σ2) fun _ σ3 => gd (inB v2 8) (some ((σ3.2 124 v2.toNatClampNeg).toInt32, σ3))
def m_isList_s (v0 : Int32) (σ : Sg) : Option (Int32 × Sg) :=
  bd (m_isIn_s v0.toInt64 0 2 σ) fun r1 σ1 => gd (nbB r1) (some (r1, σ1))
def m_isToldPure_10_b59 (k4 : Int32 → Int32 → Sg → Option (Int32 × Sg)) (v2 : Int32) (s0 : Int32) (s1 : Int32) (σ : Sg) : Option (Int32 × Sg) :=
  k4 (s0 &&& s1) (v2 + 1) σ
def m_isToldPure_10_H14 (k4 : Int32 → Int32 → Sg → Option (Int32 × Sg)) (k14 : Int32 → Int32 → Int32 → Int32 → Sg → Option (Int32 × Sg)) (v1 : Int32) (v2 : Int32) (v3 : Int32) (v4 : Int32) (σ : Sg) : Option (Int32 × Sg) :=
  if (σ.1 118 0) ≤ v4 then if v3 = 0 then m_isToldPure_10_b59 k4 v2 v1 1 σ else m_isToldPure_10_b59 k4 v2 v1 0 σ else gd (inB v4 8) (bd (m_powerOf_10 v4 v2 σ) fun r3 σ3 => k14 v1 v2 (v3 + ((σ.1 128 v4.toNatClampNeg) * r3)) (v4 + 1) σ3)
def m_isToldPure_10_L14 (k4 : Int32 → Int32 → Sg → Option (Int32 × Sg)) : Nat → Int32 → Int32 → Int32 → Int32 → Sg → Option (Int32 × Sg)
  | 0, _, _, _, _, _ => none
  | n + 1, v1, v2, v3, v4, σ => m_isToldPure_10_H14 k4 (m_isToldPure_10_L14 k4 n) v1 v2 v3 v4 σ
def m_isToldPure_10_H4 (k4 : Int32 → Int32 → Sg → Option (Int32 × Sg)) (v1 : Int32) (v2 : Int32) (σ : Sg) : Option (Int32 × Sg) :=
  if 5 ≤ v2 then gd (nbB v1) (some (v1, σ)) else m_isToldPure_10_L14 k4 fu v1 v2 0 0 σ
def m_isToldPure_10_L4 : Nat → Int32 → Int32 → Sg → Option (Int32 × Sg)
  | 0, _, _, _ => none
  | n + 1, v1, v2, σ => m_isToldPure_10_H4 (m_isToldPure_10_L4 n) v1 v2 σ
def m_isToldPure_10 (σ : Sg) : Option (Int32 × Sg) :=
  m_isToldPure_10_L4 fu 1 0 σ
def m_tells_10_b44 (k5 : Int32 → Int32 → Int32 → Int32 → Sg → Option (Int32 × Sg)) (v1 : Int32) (v2 : Int32) (v3 : Int32) (v4 : Int32) (s1 : Int32) (s2 : Int32) (σ : Sg) : Option (Int32 × Sg) :=
  gd (inB s1 8) (gd (inB v4 8) (bd (m_isIn_s (((si σ 128 s1.toNatClampNeg s2).1 128 v4.toNatClampNeg).toInt64) (-99) 99 (si σ 128 s1.toNatClampNeg s2)) fun r3 σ3 => k5 v1 v2 (v3 &&& r3) (v4 + 1) σ3))
def m_tells_10_H5 (k5 : Int32 → Int32 → Int32 → Int32 → Sg → Option (Int32 × Sg)) (v1 : Int32) (v2 : Int32) (v3 : Int32) (v4 : Int32) (σ : Sg) : Option (Int32 × Sg) :=
  if v2 ≤ v4 then gd (nbB v3) (some (v3, σ)) else gd (inB v1 3) (if (σ.1 126 v1.toNatClampNeg) ≤ v4 then m_tells_10_b44 k5 v1 v2 v3 v4 v4 0 σ else gd (inB ((40 * v1) + v4) 120) (m_tells_10_b44 k5 v1 v2 v3 v4 v4 (σ.1 127 ((40 * v1) + v4).toNatClampNeg) σ))
def m_tells_10_L5 : Nat → Int32 → Int32 → Int32 → Int32 → Sg → Option (Int32 × Sg)
  | 0, _, _, _, _, _ => none
  | n + 1, v1, v2, v3, v4, σ => m_tells_10_H5 (m_tells_10_L5 n) v1 v2 v3 v4 σ
def m_tells_10 (v1 : Int32) (v2 : Int32) (σ : Sg) : Option (Int32 × Sg) :=
  m_tells_10_L5 fu v1 v2 1 0 σ
def m_pure_10_b61 (s0 : Int32) (σ : Sg) : Option (Int32 × Sg) :=
  some (s0, σ)
def m_pure_10 (v1 : Int32) (σ : Sg) : Option (Int32 × Sg) :=
  bd (m_isList_s v1 σ) fun r1 σ1 => if r1 = 0 then bd (m_refuse_10 1 σ1) fun r10 σ10 => some (r10, σ10) else gd (inB v1 3) (if 0 ≤ (σ1.1 126 v1.toNatClampNeg) then bd (m_tells_10 v1 (σ1.1 118 0) σ1) fun r3 σ3 => if r3 = 0 then bd (m_refuse_10 3 σ3) fun r6 σ6 => some (r6, σ6) else bd (m_isToldPure_10 σ3) fun r4 σ4 => if r4 = 0 then m_pure_10_b61 0 σ4 else m_pure_10_b61 1 σ4 else bd (m_refuse_10 11 σ1) fun r8 σ8 => some (r8, σ8))
def m_partOf_s_b48 (s0 : Int64) (σ : Sg) : Option (Int64 × Sg) :=
  some (s0, σ)
def m_partOf_s_b30 (v0 : Int64) (v2 : Int64) (v4 : Int32) (s0 : Int64) (σ : Sg) : Option (Int64 × Sg) :=
  if v4 = 0 then gd (neBL s0) (m_partOf_s_b48 (v0 / s0) σ) else gd (neBL s0) (m_partOf_s_b48 (v2 / s0) σ)
def m_partOf_s (v0 : Int64) (v2 : Int64) (v4 : Int32) (σ : Sg) : Option (Int64 × Sg) :=
  if (lg_cmp v0 0) = 0 then some (v4.toInt64, σ) else if 0 ≤ (lg_cmp v2 0) then bd (m_common_s v0 v2 σ) fun r1 σ1 => m_partOf_s_b30 v0 v2 v4 r1 σ1 else bd (m_common_s v0 v2 σ) fun r2 σ2 => m_partOf_s_b30 v0 v2 v4 (-r2) σ2
def m_refuseFarther_10 (v1 : Int32) (σ : Sg) : Option (Int64 × Sg) :=
  bd (m_refuse_10 v1 σ) fun r1 σ1 => some (4000000000000000000 - r1.toInt64, σ1)
def m_cover_10_b77 (v3 : Int32) (v4 : Int32) (s0 : Int32) (σ : Sg) : Option (Int64 × Sg) :=
  if s0 = 0 then bd (m_groups_10 v4 σ) fun _ σ1 => gd (inB v4 8) (gd (inB v4 8) (bd (m_partOf_s ((σ1.1 128 v4.toNatClampNeg).toInt64) (σ1.2 124 v4.toNatClampNeg) v3 σ1) fun r4 σ4 => some (r4, σ4))) else bd (m_refuseFarther_10 s0 σ) fun r5 σ5 => some (r5, σ5)
def m_cover_10_b19 (v3 : Int32) (v4 : Int32) (σ : Sg) : Option (Int64 × Sg) :=
  m_cover_10_b77 v3 v4 1 σ
def m_cover_10_b72 (v3 : Int32) (v4 : Int32) (σ : Sg) : Option (Int64 × Sg) :=
  m_cover_10_b77 v3 v4 3 σ
def m_cover_10 (v1 : Int32) (v2 : Int32) (v3 : Int32) (σ : Sg) : Option (Int64 × Sg) :=
  bd (m_ownOf_10 v2 σ) fun r1 σ1 => bd (m_isList_s v1 σ1) fun r2 σ2 => if r2 = 0 then m_cover_10_b19 v3 r1 σ2 else if 0 ≤ r1 then bd (m_isIn_s v3.toInt64 0 1 σ2) fun r3 σ3 => if r3 = 0 then m_cover_10_b77 v3 r1 2 σ3 else gd (inB v1 3) (if 0 ≤ (σ3.1 126 v1.toNatClampNeg) then bd (m_tells_10 v1 (σ3.1 118 0) σ3) fun r5 σ5 => if r5 = 0 then m_cover_10_b72 v3 r1 σ5 else bd (m_isToldPure_10 σ5) fun r6 σ6 => if r6 = 0 then m_cover_10_b72 v3 r1 σ6 else m_cover_10_b77 v3 r1 0 σ6 else m_cover_10_b77 v3 r1 11 σ3) else m_cover_10_b19 v3 r1 σ2
def m_box_10_b108 (k29 : Int32 → Int32 → Sg → Option (Int32 × Sg)) (v1 : Int32) (v2 : Int32) (σ : Sg) : Option (Int32 × Sg) :=
  k29 v1 v2 σ
def m_box_10_b93 (k29 : Int32 → Int32 → Sg → Option (Int32 × Sg)) (v1 : Int32) (v3 : Int32) (s0 : Int32) (σ : Sg) : Option (Int32 × Sg) :=
  if s0 = 0 then m_box_10_b108 k29 v1 s0 σ else gd (inB v3 8) (gd (inB v3 8) (m_box_10_b108 k29 v1 s0 (si σ 128 v3.toNatClampNeg ((σ.1 128 v3.toNatClampNeg) + 1))))
def m_box_10_b84 (k29 : Int32 → Int32 → Sg → Option (Int32 × Sg)) (v1 : Int32) (v3 : Int32) (σ : Sg) : Option (Int32 × Sg) :=
  if v3 < 0 then m_box_10_b93 k29 v1 v3 0 σ else m_box_10_b93 k29 v1 v3 1 σ
def m_box_10_H57 (k29 : Int32 → Int32 → Sg → Option (Int32 × Sg)) (k57 : Int32 → Int32 → Sg → Option (Int32 × Sg)) (v1 : Int32) (v3 : Int32) (σ : Sg) : Option (Int32 × Sg) :=
  if v3 < 0 then m_box_10_b84 k29 v1 v3 σ else gd (inB v3 8) (if (σ.1 128 v3.toNatClampNeg) = 1 then gd (inB v3 8) (k57 v1 (v3 + (-1)) (si σ 128 v3.toNatClampNeg (-1))) else m_box_10_b84 k29 v1 v3 σ)
def m_box_10_L57 (k29 : Int32 → Int32 → Sg → Option (Int32 × Sg)) : Nat → Int32 → Int32 → Sg → Option (Int32 × Sg)
  | 0, _, _, _ => none
  | n + 1, v1, v3, σ => m_box_10_H57 k29 (m_box_10_L57 k29 n) v1 v3 σ
def m_box_10_b46 (k29 : Int32 → Int32 → Sg → Option (Int32 × Sg)) (s0 : Int32) (s1 : Int32) (σ : Sg) : Option (Int32 × Sg) :=
  m_box_10_L57 k29 fu (s0 + s1) ((σ.1 118 0) - 1) σ
def m_box_10_H29 (k29 : Int32 → Int32 → Sg → Option (Int32 × Sg)) (v1 : Int32) (v2 : Int32) (σ : Sg) : Option (Int32 × Sg) :=
  if v2 = 0 then some (v1, σ) else bd (m_isToldPure_10 σ) fun r1 σ1 => if r1 = 0 then m_box_10_b46 k29 v1 0 σ1 else m_box_10_b46 k29 v1 1 σ1
def m_box_10_L29 : Nat → Int32 → Int32 → Sg → Option (Int32 × Sg)
  | 0, _, _, _ => none
  | n + 1, v1, v2, σ => m_box_10_H29 (m_box_10_L29 n) v1 v2 σ
def m_box_10_H2 (k2 : Int32 → Sg → Option (Int32 × Sg)) (v1 : Int32) (σ : Sg) : Option (Int32 × Sg) :=
  if (σ.1 118 0) ≤ v1 then m_box_10_L29 fu 0 1 σ else gd (inB v1 8) (k2 (v1 + 1) (si σ 128 v1.toNatClampNeg (-1)))
def m_box_10_L2 : Nat → Int32 → Sg → Option (Int32 × Sg)
  | 0, _, _ => none
  | n + 1, v1, σ => m_box_10_H2 (m_box_10_L2 n) v1 σ
def m_box_10 (σ : Sg) : Option (Int32 × Sg) :=
  m_box_10_L2 fu 0 σ
def m_isLeast_10_b57 (rs : Int32 → Int32 → Sg → Option (Int32 × Sg)) (k30 : Int32 → Int32 → Int32 → Sg → Option (Int32 × Sg)) (v1 : Int32) (v2 : Int32) (v3 : Int32) (s1 : Int32) (s2 : Int32) (s3 : Int32) (σ : Sg) : Option (Int32 × Sg) :=
  bd (rs s1 (s2 - s3) σ) fun r1 σ1 => if r1 = 0 then k30 v1 v2 (v3 + 1) σ1 else some (1, σ1)
def m_isLeast_10_H30 (rs : Int32 → Int32 → Sg → Option (Int32 × Sg)) (k30 : Int32 → Int32 → Int32 → Sg → Option (Int32 × Sg)) (v1 : Int32) (v2 : Int32) (v3 : Int32) (σ : Sg) : Option (Int32 × Sg) :=
  if v2 < v3 then some (0, σ) else gd (inB v1 8) (if 0 ≤ v3 then m_isLeast_10_b57 rs k30 v1 v2 v3 (v1 + 1) v2 v3 (si σ 128 v1.toNatClampNeg v3) else m_isLeast_10_b57 rs k30 v1 v2 v3 (v1 + 1) v2 (-v3) (si σ 128 v1.toNatClampNeg v3))
def m_isLeast_10_L30 (rs : Int32 → Int32 → Sg → Option (Int32 × Sg)) : Nat → Int32 → Int32 → Int32 → Sg → Option (Int32 × Sg)
  | 0, _, _, _, _ => none
  | n + 1, v1, v2, v3, σ => m_isLeast_10_H30 rs (m_isLeast_10_L30 rs n) v1 v2 v3 σ
def m_isLeast_10_b26 (rs : Int32 → Int32 → Sg → Option (Int32 × Sg)) (s0 : Int32) (σ : Sg) : Option (Int32 × Sg) :=
  gd (nbB s0) (some (s0, σ))
def m_isLeast_10_b25 (rs : Int32 → Int32 → Sg → Option (Int32 × Sg)) (σ : Sg) : Option (Int32 × Sg) :=
  m_isLeast_10_b26 rs 0 σ
def m_isLeast_10_H (rs : Int32 → Int32 → Sg → Option (Int32 × Sg)) (v1 : Int32) (v2 : Int32) (σ : Sg) : Option (Int32 × Sg) :=
  if v1 = (σ.1 118 0) then if v2 = 0 then bd (m_isToldPure_10 σ) fun r1 σ1 => if r1 = 0 then m_isLeast_10_b25 rs σ1 else m_isLeast_10_b26 rs 1 σ1 else m_isLeast_10_b25 rs σ else m_isLeast_10_L30 rs fu v1 v2 (-v2) σ
def m_isLeast_10 : Nat → Int32 → Int32 → Sg → Option (Int32 × Sg)
  | 0, _, _, _ => none
  | n + 1, v1, v2, σ => m_isLeast_10_H (m_isLeast_10 n) v1 v2 σ
def m_least_10_b50 (s0 : Int32) (σ : Sg) : Option (Int32 × Sg) :=
  some (s0, σ)
def m_least_10_H21 (k21 : Int32 → Int32 → Sg → Option (Int32 × Sg)) (v1 : Int32) (v2 : Int32) (σ : Sg) : Option (Int32 × Sg) :=
  if 6 < v2 then some (0, σ) else bd (m_isLeast_10 12 0 v2 σ) fun r1 σ1 => if r1 = 0 then k21 v1 (v2 + 1) σ1 else if 0 ≤ v1 then gd (inB v1 8) (m_least_10_b50 (σ1.1 128 v1.toNatClampNeg) σ1) else m_least_10_b50 v2 σ1
def m_least_10_L21 : Nat → Int32 → Int32 → Sg → Option (Int32 × Sg)
  | 0, _, _, _ => none
  | n + 1, v1, v2, σ => m_least_10_H21 (m_least_10_L21 n) v1 v2 σ
def m_least_10_b19 (v1 : Int32) (σ : Sg) : Option (Int32 × Sg) :=
  m_least_10_L21 fu v1 1 σ
def m_least_10 (v1 : Int32) (σ : Sg) : Option (Int32 × Sg) :=
  if v1 = (-1) then m_least_10_b19 v1 σ else bd (m_isOne_10 v1 σ) fun r1 σ1 => if r1 = 0 then bd (m_refuseFar_10 1 σ1) fun r2 σ2 => some (r2, σ2) else m_least_10_b19 v1 σ1
def m_isFree_10_b32 (s0 : Int32) (σ : Sg) : Option (Int32 × Sg) :=
  gd (nbB s0) (some (s0, σ))
def m_isFree_10_b31 (σ : Sg) : Option (Int32 × Sg) :=
  m_isFree_10_b32 0 σ
def m_isFree_10 (v1 : Int32) (σ : Sg) : Option (Int32 × Sg) :=
  bd (m_bits_s v1 σ) fun r1 σ1 => if 5 < r1 then m_isFree_10_b31 σ1 else bd (m_lays2_10 v1 (-1) σ1) fun r2 σ2 => bd (m_bits_s v1 σ2) fun r3 σ3 => bd (m_clears_10 r2 r3 σ3) fun r4 σ4 => if (lg_cmp r4 0) = 0 then m_isFree_10_b31 σ4 else m_isFree_10_b32 1 σ4
def m_isChosen_10_b27 (s0 : Int32) (σ : Sg) : Option (Int32 × Sg) :=
  gd (nbB s0) (some (s0, σ))
def m_isChosen_10_b26 (σ : Sg) : Option (Int32 × Sg) :=
  m_isChosen_10_b27 0 σ
def m_isChosen_10 (v1 : Int32) (σ : Sg) : Option (Int32 × Sg) :=
  bd (m_bits_s v1 σ) fun r1 σ1 => bd (m_firm_10 σ1) fun r2 σ2 => bd (m_bits_s r2 σ2) fun r3 σ3 => if r1 = r3 then bd (m_isFree_10 v1 σ3) fun r4 σ4 => if r4 = 0 then m_isChosen_10_b26 σ4 else m_isChosen_10_b27 1 σ4 else m_isChosen_10_b26 σ3
def m_isSet_10 (v1 : Int32) (σ : Sg) : Option (Int32 × Sg) :=
  bd (m_isIn_s v1.toInt64 0 ((((1 : Int32) <<< ((σ.1 118 0) &&& 31)) - 1).toInt64) σ) fun r1 σ1 => gd (nbB r1) (some (r1, σ1))
def m_may_10_b27 (s0 : Int32) (σ : Sg) : Option (Int32 × Sg) :=
  some (s0, σ)
def m_may_10 (v1 : Int32) (σ : Sg) : Option (Int32 × Sg) :=
  bd (m_isSet_10 v1 σ) fun r1 σ1 => if r1 = 0 then bd (m_refuse_10 1 σ1) fun r4 σ4 => some (r4, σ4) else bd (m_isChosen_10 v1 σ1) fun r2 σ2 => if r2 = 0 then m_may_10_b27 0 σ2 else m_may_10_b27 1 σ2
def m_rest_10_b32 (σ : Sg) : Option (Int32 × Sg) :=
  bd (m_refuseFar_10 1 σ) fun r1 σ1 => some (r1, σ1)
def m_rest_10 (v1 : Int32) (v2 : Int32) (v3 : Int32) (σ : Sg) : Option (Int32 × Sg) :=
  bd (m_isSet_10 v1 σ) fun r1 σ1 => if r1 = 0 then m_rest_10_b32 σ1 else bd (m_isOne_10 v2 σ1) fun r2 σ2 => if r2 = 0 then m_rest_10_b32 σ2 else bd (m_has_s v1 v2 σ2) fun r3 σ3 => if r3 = 0 then bd (m_isOne_10 v3 σ3) fun r4 σ4 => if r4 = 0 then m_rest_10_b32 σ4 else bd (m_isChosen_10 v1 σ4) fun r5 σ5 => if r5 = 0 then bd (m_refuseFar_10 3 σ5) fun r8 σ8 => some (r8, σ8) else bd (m_isHad_10 v1 v2 σ5) fun r6 σ6 => gd (inB v3 8) (some ((σ6.2 124 v3.toNatClampNeg).toInt32, σ6)) else m_rest_10_b32 σ3
def m_sizesOf_10_b91 (k5 : Int32 → Int64 → Int32 → Sg → Option (Int64 × Sg)) (v1 : Int32) (v2 : Int64) (v4 : Int32) (σ : Sg) : Option (Int64 × Sg) :=
  k5 v1 v2 (v4 + 1) σ
def m_sizesOf_10_b83 (k5 : Int32 → Int64 → Int32 → Sg → Option (Int64 × Sg)) (k41 : Int32 → Int64 → Int32 → Int32 → Sg → Option (Int64 × Sg)) (v1 : Int32) (v4 : Int32) (v5 : Int32) (s0 : Int64) (s1 : Int64) (σ : Sg) : Option (Int64 × Sg) :=
  k41 v1 (s0 + s1) v4 (v5 + 1) σ
def m_sizesOf_10_H41 (k5 : Int32 → Int64 → Int32 → Sg → Option (Int64 × Sg)) (k41 : Int32 → Int64 → Int32 → Int32 → Sg → Option (Int64 × Sg)) (v1 : Int32) (v2 : Int64) (v4 : Int32) (v5 : Int32) (σ : Sg) : Option (Int64 × Sg) :=
  if (σ.1 118 0) ≤ v5 then m_sizesOf_10_b91 k5 v1 v2 v4 σ else gd (inB v5 8) (if 0 ≤ (lg_cmp (σ.2 124 v5.toNatClampNeg) 0) then gd (inB v5 8) (m_sizesOf_10_b83 k5 k41 v1 v4 v5 v2 (σ.2 124 v5.toNatClampNeg) σ) else gd (inB v5 8) (m_sizesOf_10_b83 k5 k41 v1 v4 v5 v2 (-(σ.2 124 v5.toNatClampNeg)) σ))
def m_sizesOf_10_L41 (k5 : Int32 → Int64 → Int32 → Sg → Option (Int64 × Sg)) : Nat → Int32 → Int64 → Int32 → Int32 → Sg → Option (Int64 × Sg)
  | 0, _, _, _, _, _ => none
  | n + 1, v1, v2, v4, v5, σ => m_sizesOf_10_H41 k5 (m_sizesOf_10_L41 k5 n) v1 v2 v4 v5 σ
def m_sizesOf_10_H5 (k5 : Int32 → Int64 → Int32 → Sg → Option (Int64 × Sg)) (v1 : Int32) (v2 : Int64) (v4 : Int32) (σ : Sg) : Option (Int64 × Sg) :=
  if (σ.1 118 0) ≤ v4 then some (v2, σ) else bd (m_has_s v1 v4 σ) fun r1 σ1 => if r1 = 0 then bd (m_isHad_10 v1 v4 σ1) fun r2 σ2 => if r2 = 0 then m_sizesOf_10_b91 k5 v1 v2 v4 σ2 else m_sizesOf_10_L41 k5 fu v1 v2 v4 0 σ2 else m_sizesOf_10_b91 k5 v1 v2 v4 σ1
def m_sizesOf_10_L5 : Nat → Int32 → Int64 → Int32 → Sg → Option (Int64 × Sg)
  | 0, _, _, _, _ => none
  | n + 1, v1, v2, v4, σ => m_sizesOf_10_H5 (m_sizesOf_10_L5 n) v1 v2 v4 σ
def m_sizesOf_10 (v1 : Int32) (σ : Sg) : Option (Int64 × Sg) :=
  m_sizesOf_10_L5 fu v1 0 0 σ
def m_sizes_10_b35 (s0 : Int64) (σ : Sg) : Option (Int64 × Sg) :=
  some (s0, σ)
def m_sizes_10 (v1 : Int32) (σ : Sg) : Option (Int64 × Sg) :=
  bd (m_isSet_10 v1 σ) fun r1 σ1 => if r1 = 0 then bd (m_refuseFarther_10 1 σ1) fun r6 σ6 => some (r6, σ6) else bd (m_isChosen_10 v1 σ1) fun r2 σ2 => if r2 = 0 then bd (m_refuseFarther_10 3 σ2) fun r3 σ3 => m_sizes_10_b35 r3 σ3 else bd (m_sizesOf_10 v1 σ2) fun r4 σ4 => m_sizes_10_b35 r4 σ4
def m_bestSet_10_b64 (k7 : Int32 → Int32 → Int64 → Int32 → Sg → Option (Int32 × Sg)) (v1 : Int32) (v2 : Int32) (v3 : Int64) (v5 : Int32) (σ : Sg) : Option (Int32 × Sg) :=
  k7 v1 v2 v3 (v5 + 1) σ
def m_bestSet_10_b58 (k7 : Int32 → Int32 → Int64 → Int32 → Sg → Option (Int32 × Sg)) (v1 : Int32) (v5 : Int32) (v6 : Int64) (σ : Sg) : Option (Int32 × Sg) :=
  m_bestSet_10_b64 k7 v1 v5 v6 v5 σ
def m_bestSet_10_H7 (k7 : Int32 → Int32 → Int64 → Int32 → Sg → Option (Int32 × Sg)) (v1 : Int32) (v2 : Int32) (v3 : Int64) (v5 : Int32) (σ : Sg) : Option (Int32 × Sg) :=
  if ((1 : Int32) <<< ((σ.1 118 0) &&& 31)) ≤ v5 then some (v2, σ) else bd (m_isChosen_10 v5 σ) fun r1 σ1 => if r1 = 0 then m_bestSet_10_b64 k7 v1 v2 v3 v5 σ1 else if v1 = 0 then bd (m_sizesOf_10 v5 σ1) fun r2 σ2 => if v2 < 0 then m_bestSet_10_b58 k7 v1 v5 r2 σ2 else if 0 ≤ (lg_cmp r2 v3) then m_bestSet_10_b64 k7 v1 v2 v3 v5 σ2 else m_bestSet_10_b58 k7 v1 v5 r2 σ2 else some (v5, σ1)
def m_bestSet_10_L7 : Nat → Int32 → Int32 → Int64 → Int32 → Sg → Option (Int32 × Sg)
  | 0, _, _, _, _, _ => none
  | n + 1, v1, v2, v3, v5, σ => m_bestSet_10_H7 (m_bestSet_10_L7 n) v1 v2 v3 v5 σ
def m_bestSet_10 (v1 : Int32) (σ : Sg) : Option (Int32 × Sg) :=
  m_bestSet_10_L7 fu v1 (-1) 0 0 σ
def m_chosen_10_b30 (k4 : Int32 → Int32 → Sg → Option (Int32 × Sg)) (v2 : Int32) (s0 : Int32) (s1 : Int32) (σ : Sg) : Option (Int32 × Sg) :=
  k4 (s0 + s1) (v2 + 1) σ
def m_chosen_10_H4 (k4 : Int32 → Int32 → Sg → Option (Int32 × Sg)) (v1 : Int32) (v2 : Int32) (σ : Sg) : Option (Int32 × Sg) :=
  if ((1 : Int32) <<< ((σ.1 118 0) &&& 31)) ≤ v2 then some (v1, σ) else bd (m_isChosen_10 v2 σ) fun r1 σ1 => if r1 = 0 then m_chosen_10_b30 k4 v2 v1 0 σ1 else m_chosen_10_b30 k4 v2 v1 1 σ1
def m_chosen_10_L4 : Nat → Int32 → Int32 → Sg → Option (Int32 × Sg)
  | 0, _, _, _ => none
  | n + 1, v1, v2, σ => m_chosen_10_H4 (m_chosen_10_L4 n) v1 v2 σ
def m_chosen_10 (σ : Sg) : Option (Int32 × Sg) :=
  m_chosen_10_L4 fu 0 0 σ
def m_sets1_10_b43 (s0 : Int32) (σ : Sg) : Option (Int32 × Sg) :=
  some (s0, σ)
def m_sets1_10_b40 (s1 : Int32) (σ : Sg) : Option (Int32 × Sg) :=
  bd (m_bestSet_10 s1 σ) fun r1 σ1 => m_sets1_10_b43 r1 σ1
def m_sets1_10 (v1 : Int32) (σ : Sg) : Option (Int32 × Sg) :=
  bd (m_isIn_s v1.toInt64 0 2 σ) fun r1 σ1 => if r1 = 0 then bd (m_refuse_10 2 σ1) fun r5 σ5 => some (r5, σ5) else if v1 = 0 then bd (m_chosen_10 σ1) fun r3 σ3 => m_sets1_10_b43 r3 σ3 else if v1 = 1 then m_sets1_10_b40 1 σ1 else m_sets1_10_b40 0 σ1
def m_odds_10_b57 (k29 : Int32 → Int32 → Int32 → Int32 → Sg → Option (Int64 × Sg)) (v1 : Int32) (v3 : Int32) (v4 : Int32) (s0 : Int32) (s1 : Int32) (σ : Sg) : Option (Int64 × Sg) :=
  k29 v1 (s0 + s1) v3 (v4 + 1) σ
def m_odds_10_H29 (k29 : Int32 → Int32 → Int32 → Int32 → Sg → Option (Int64 × Sg)) (v1 : Int32) (v2 : Int32) (v3 : Int32) (v4 : Int32) (σ : Sg) : Option (Int64 × Sg) :=
  if ((1 : Int32) <<< ((σ.1 118 0) &&& 31)) ≤ v4 then bd (m_chosen_10 σ) fun r1 σ1 => bd (m_partOf_s r1.toInt64 v2.toInt64 v1 σ1) fun r2 σ2 => some (r2, σ2) else bd (m_bits_s v4 σ) fun r3 σ3 => if r3 = v3 then m_odds_10_b57 k29 v1 v3 v4 v2 1 σ3 else m_odds_10_b57 k29 v1 v3 v4 v2 0 σ3
def m_odds_10_L29 : Nat → Int32 → Int32 → Int32 → Int32 → Sg → Option (Int64 × Sg)
  | 0, _, _, _, _, _ => none
  | n + 1, v1, v2, v3, v4, σ => m_odds_10_H29 (m_odds_10_L29 n) v1 v2 v3 v4 σ
def m_odds_10 (v1 : Int32) (σ : Sg) : Option (Int64 × Sg) :=
  bd (m_isIn_s v1.toInt64 0 1 σ) fun r1 σ1 => if r1 = 0 then bd (m_refuseFarther_10 2 σ1) fun r4 σ4 => some (r4, σ4) else bd (m_firm_10 σ1) fun r2 σ2 => bd (m_bits_s r2 σ2) fun r3 σ3 => m_odds_10_L29 fu v1 0 r3 0 σ3
def m_scale_10_b27 (σ : Sg) : Option (Int32 × Sg) :=
  bd (m_refuse_10 4 σ) fun r1 σ1 => some (r1, σ1)
def m_scale_10_b49 (σ : Sg) : Option (Int32 × Sg) :=
  bd (m_refuse_10 6 σ) fun r1 σ1 => some (r1, σ1)
def m_scale_10_b95 (s1 : Int32) (s2 : Int32) (σ : Sg) : Option (Int32 × Sg) :=
  gd (inB s1 139) (some (1, si σ 118 s1.toNatClampNeg s2))
def m_scale_10_b56 (v1 : Int32) (v2 : Int32) (v3 : Int32) (σ : Sg) : Option (Int32 × Sg) :=
  bd (m_changes_10 (49 + v1) (57 + v1) σ) fun _ σ1 => gd (inB (49 + v1) 139) (if v2 = 0 then m_scale_10_b95 (57 + v1) 0 (si σ1 118 (49 + v1).toNatClampNeg v2) else m_scale_10_b95 (57 + v1) v3 (si σ1 118 (49 + v1).toNatClampNeg v2))
def m_scale_10_b33 (v1 : Int32) (v2 : Int32) (v3 : Int32) (σ : Sg) : Option (Int32 × Sg) :=
  if 99 < v2 then m_scale_10_b49 σ else if v2 ≤ 0 then m_scale_10_b56 v1 v2 v3 σ else if v3 ≤ 99 then m_scale_10_b56 v1 v2 v3 σ else m_scale_10_b49 σ
def m_scale_10 (v1 : Int32) (v2 : Int32) (v3 : Int32) (σ : Sg) : Option (Int32 × Sg) :=
  bd (m_isOne_10 v1 σ) fun r1 σ1 => if r1 = 0 then bd (m_refuse_10 1 σ1) fun r5 σ5 => some (r5, σ5) else if v2 < 0 then m_scale_10_b27 σ1 else if v2 ≤ 0 then m_scale_10_b33 v1 v2 v3 σ1 else if 1 ≤ v3 then m_scale_10_b33 v1 v2 v3 σ1 else m_scale_10_b27 σ1
def m_scaled_10_b72 (s0 : Int32) (σ : Sg) : Option (Int32 × Sg) :=
  some (s0, σ)
def m_scaled_10 (v1 : Int32) (v2 : Int32) (σ : Sg) : Option (Int32 × Sg) :=
  bd (m_isOne_10 v1 σ) fun r1 σ1 => if r1 = 0 then bd (m_refuse_10 1 σ1) fun r10 σ10 => some (r10, σ10) else bd (m_isIn_s v2.toInt64 0 1 σ1) fun r2 σ2 => if r2 = 0 then bd (m_refuse_10 2 σ2) fun r8 σ8 => some (r8, σ8) else gd (inB (49 + v1) 139) (if (σ2.1 118 (49 + v1).toNatClampNeg) = 0 then m_scaled_10_b72 (-9) σ2 else gd (inB (49 + v1) 139) (gd (inB (57 + v1) 139) (bd (m_partOf_s ((σ2.1 118 (49 + v1).toNatClampNeg).toInt64) ((σ2.1 118 (57 + v1).toNatClampNeg).toInt64) v2 σ2) fun r6 σ6 => m_scaled_10_b72 r6.toInt32 σ6)))
def m_areScaled_10_b43 (k4 : Int32 → Int32 → Sg → Option (Int32 × Sg)) (v2 : Int32) (s0 : Int32) (s1 : Int32) (σ : Sg) : Option (Int32 × Sg) :=
  k4 (s0 &&& s1) (v2 + 1) σ
def m_areScaled_10_b38 (k4 : Int32 → Int32 → Sg → Option (Int32 × Sg)) (v2 : Int32) (s0 : Int32) (σ : Sg) : Option (Int32 × Sg) :=
  m_areScaled_10_b43 k4 v2 s0 1 σ
def m_areScaled_10_H4 (k4 : Int32 → Int32 → Sg → Option (Int32 × Sg)) (v1 : Int32) (v2 : Int32) (σ : Sg) : Option (Int32 × Sg) :=
  if (σ.1 118 0) ≤ v2 then gd (nbB v1) (some (v1, σ)) else gd (inB v2 8) (if (lg_cmp (σ.2 124 v2.toNatClampNeg) 0) = 0 then m_areScaled_10_b38 k4 v2 v1 σ else gd (inB (49 + v2) 139) (if (σ.1 118 (49 + v2).toNatClampNeg) ≤ 0 then m_areScaled_10_b43 k4 v2 v1 0 σ else m_areScaled_10_b38 k4 v2 v1 σ))
def m_areScaled_10_L4 : Nat → Int32 → Int32 → Sg → Option (Int32 × Sg)
  | 0, _, _, _ => none
  | n + 1, v1, v2, σ => m_areScaled_10_H4 (m_areScaled_10_L4 n) v1 v2 σ
def m_areScaled_10 (σ : Sg) : Option (Int32 × Sg) :=
  m_areScaled_10_L4 fu 1 0 σ
def m_isPrime_s_H2 (k2 : Int32 → Int32 → Sg → Option (Int32 × Sg)) (v0 : Int32) (v1 : Int32) (σ : Sg) : Option (Int32 × Sg) :=
  if v0 ≤ v1 then bd (m_isIn_s v0.toInt64 2 97 σ) fun r1 σ1 => gd (nbB r1) (some (r1, σ1)) else gd (neB v1) (if (irm v0 v1) = 0 then some (0, σ) else k2 v0 (v1 + 1) σ)
def m_isPrime_s_L2 : Nat → Int32 → Int32 → Sg → Option (Int32 × Sg)
  | 0, _, _, _ => none
  | n + 1, v0, v1, σ => m_isPrime_s_H2 (m_isPrime_s_L2 n) v0 v1 σ
def m_isPrime_s (v0 : Int32) (σ : Sg) : Option (Int32 × Sg) :=
  m_isPrime_s_L2 fu v0 2 σ
def m_often_s_b24 (v2 : Int32) (σ : Sg) : Option (Int32 × Sg) :=
  some (v2, σ)
def m_often_s_H4 (k4 : Int32 → Int32 → Int32 → Sg → Option (Int32 × Sg)) (v1 : Int32) (v2 : Int32) (v3 : Int32) (σ : Sg) : Option (Int32 × Sg) :=
  if v3 ≤ 0 then m_often_s_b24 v2 σ else gd (neB v1) (if (irm v3 v1) = 0 then gd (neB v1) (k4 v1 (v2 + 1) (v3 / v1) σ) else m_often_s_b24 v2 σ)
def m_often_s_L4 : Nat → Int32 → Int32 → Int32 → Sg → Option (Int32 × Sg)
  | 0, _, _, _, _ => none
  | n + 1, v1, v2, v3, σ => m_often_s_H4 (m_often_s_L4 n) v1 v2 v3 σ
def m_often_s (v0 : Int32) (v1 : Int32) (σ : Sg) : Option (Int32 × Sg) :=
  m_often_s_L4 fu v1 0 v0 σ
def m_powerIn_10 (v1 : Int32) (v2 : Int32) (σ : Sg) : Option (Int32 × Sg) :=
  gd (inB (49 + v1) 139) (bd (m_often_s (σ.1 118 (49 + v1).toNatClampNeg) v2 σ) fun r2 σ2 => gd (inB (57 + v1) 139) (bd (m_often_s (σ2.1 118 (57 + v1).toNatClampNeg) v2 σ2) fun r4 σ4 => some (r2 - r4, σ4)))
def m_weighs_10_b55 (k5 : Int32 → Int32 → Int64 → Int32 → Sg → Option (Int64 × Sg)) (v1 : Int32) (v2 : Int32) (v5 : Int32) (s0 : Int64) (s1 : Int64) (σ : Sg) : Option (Int64 × Sg) :=
  k5 v1 v2 (s0 + s1) (v5 + 1) σ
def m_weighs_10_b54 (k5 : Int32 → Int32 → Int64 → Int32 → Sg → Option (Int64 × Sg)) (v1 : Int32) (v2 : Int32) (v5 : Int32) (s0 : Int64) (σ : Sg) : Option (Int64 × Sg) :=
  m_weighs_10_b55 k5 v1 v2 v5 s0 0 σ
def m_weighs_10_H5 (k5 : Int32 → Int32 → Int64 → Int32 → Sg → Option (Int64 × Sg)) (v1 : Int32) (v2 : Int32) (v3 : Int64) (v5 : Int32) (σ : Sg) : Option (Int64 × Sg) :=
  if (σ.1 118 0) ≤ v5 then some (v3, σ) else if v5 = v2 then m_weighs_10_b54 k5 v1 v2 v5 v3 σ else gd (inB v5 8) (if (lg_cmp (σ.2 124 v5.toNatClampNeg) 0) = 0 then m_weighs_10_b54 k5 v1 v2 v5 v3 σ else gd (inB v5 8) (bd (m_powerIn_10 v5 v1 σ) fun r3 σ3 => m_weighs_10_b55 k5 v1 v2 v5 v3 ((σ.2 124 v5.toNatClampNeg) * r3.toInt64) σ3))
def m_weighs_10_L5 : Nat → Int32 → Int32 → Int64 → Int32 → Sg → Option (Int64 × Sg)
  | 0, _, _, _, _, _ => none
  | n + 1, v1, v2, v3, v5, σ => m_weighs_10_H5 (m_weighs_10_L5 n) v1 v2 v3 v5 σ
def m_weighs_10 (v1 : Int32) (v2 : Int32) (σ : Sg) : Option (Int64 × Sg) :=
  m_weighs_10_L5 fu v1 v2 0 0 σ
def m_isAlike_10_b34 (k4 : Int32 → Int32 → Sg → Option (Int32 × Sg)) (v2 : Int32) (s0 : Int32) (s1 : Int32) (σ : Sg) : Option (Int32 × Sg) :=
  k4 (s0 &&& s1) (v2 + 1) σ
def m_isAlike_10_b29 (k4 : Int32 → Int32 → Sg → Option (Int32 × Sg)) (v2 : Int32) (s0 : Int32) (σ : Sg) : Option (Int32 × Sg) :=
  m_isAlike_10_b34 k4 v2 s0 1 σ
def m_isAlike_10_H4 (k4 : Int32 → Int32 → Sg → Option (Int32 × Sg)) (v1 : Int32) (v2 : Int32) (σ : Sg) : Option (Int32 × Sg) :=
  if 97 < v2 then gd (nbB v1) (some (v1, σ)) else bd (m_isPrime_s v2 σ) fun r1 σ1 => if r1 = 0 then m_isAlike_10_b29 k4 v2 v1 σ1 else bd (m_weighs_10 v2 (-1) σ1) fun r2 σ2 => if (lg_cmp r2 0) = 0 then m_isAlike_10_b29 k4 v2 v1 σ2 else m_isAlike_10_b34 k4 v2 v1 0 σ2
def m_isAlike_10_L4 : Nat → Int32 → Int32 → Sg → Option (Int32 × Sg)
  | 0, _, _, _ => none
  | n + 1, v1, v2, σ => m_isAlike_10_H4 (m_isAlike_10_L4 n) v1 v2 σ
def m_isAlike_10 (σ : Sg) : Option (Int32 × Sg) :=
  m_isAlike_10_L4 fu 1 2 σ
def m_alike_10_b40 (k10 : Int32 → Int32 → Sg → Option (Int32 × Sg)) (v1 : Int32) (v2 : Int32) (σ : Sg) : Option (Int32 × Sg) :=
  k10 v1 (v2 + 1) σ
def m_alike_10_H10 (k10 : Int32 → Int32 → Sg → Option (Int32 × Sg)) (v1 : Int32) (v2 : Int32) (σ : Sg) : Option (Int32 × Sg) :=
  if v1 ≤ v2 then some ((-9), σ) else bd (m_ownOf_10 v2 σ) fun r1 σ1 => bd (m_groups_10 r1 σ1) fun _ σ2 => bd (m_areScaled_10 σ2) fun r3 σ3 => if r3 = 0 then m_alike_10_b40 k10 v1 v2 σ3 else bd (m_isAlike_10 σ3) fun r4 σ4 => if r4 = 0 then some (v2, σ4) else m_alike_10_b40 k10 v1 v2 σ4
def m_alike_10_L10 : Nat → Int32 → Int32 → Sg → Option (Int32 × Sg)
  | 0, _, _, _ => none
  | n + 1, v1, v2, σ => m_alike_10_H10 (m_alike_10_L10 n) v1 v2 σ
def m_alike_10 (σ : Sg) : Option (Int32 × Sg) :=
  bd (m_loose_10 σ) fun r1 σ1 => bd (m_bits_s r1 σ1) fun r2 σ2 => m_alike_10_L10 fu r2 0 σ2
def m_isScaled_10_b54 (v2 : Int32) (σ : Sg) : Option (Int32 × Sg) :=
  gd (nbB v2) (some (v2, σ))
def m_isScaled_10_b47 (k8 : Int32 → Int32 → Int32 → Sg → Option (Int32 × Sg)) (v1 : Int32) (v3 : Int32) (s0 : Int32) (σ : Sg) : Option (Int32 × Sg) :=
  k8 v1 s0 (v3 + 1) σ
def m_isScaled_10_b42 (k8 : Int32 → Int32 → Int32 → Sg → Option (Int32 × Sg)) (v1 : Int32) (v3 : Int32) (σ : Sg) : Option (Int32 × Sg) :=
  m_isScaled_10_b47 k8 v1 v3 1 σ
def m_isScaled_10_H8 (k8 : Int32 → Int32 → Int32 → Sg → Option (Int32 × Sg)) (v1 : Int32) (v2 : Int32) (v3 : Int32) (σ : Sg) : Option (Int32 × Sg) :=
  if (σ.1 118 0) ≤ v3 then m_isScaled_10_b54 v2 σ else if v2 = 0 then m_isScaled_10_b54 v2 σ else bd (m_has_s v1 v3 σ) fun r1 σ1 => if r1 = 0 then m_isScaled_10_b42 k8 v1 v3 σ1 else gd (inB (49 + v3) 139) (if (σ1.1 118 (49 + v3).toNatClampNeg) ≤ 0 then m_isScaled_10_b47 k8 v1 v3 0 σ1 else m_isScaled_10_b42 k8 v1 v3 σ1)
def m_isScaled_10_L8 : Nat → Int32 → Int32 → Int32 → Sg → Option (Int32 × Sg)
  | 0, _, _, _, _ => none
  | n + 1, v1, v2, v3, σ => m_isScaled_10_H8 (m_isScaled_10_L8 n) v1 v2 v3 σ
def m_isScaled_10 (v1 : Int32) (σ : Sg) : Option (Int32 × Sg) :=
  bd (m_isChosen_10 v1 σ) fun r1 σ1 => m_isScaled_10_L8 fu v1 r1 0 σ1
def m_wrongMust_10_b29 (s0 : Int32) (σ : Sg) : Option (Int32 × Sg) :=
  some (s0, σ)
def m_wrongMust_10_b24 (σ : Sg) : Option (Int32 × Sg) :=
  m_wrongMust_10_b29 1 σ
def m_wrongMust_10 (v1 : Int32) (v2 : Int32) (σ : Sg) : Option (Int32 × Sg) :=
  bd (m_isSet_10 v1 σ) fun r1 σ1 => if r1 = 0 then m_wrongMust_10_b24 σ1 else bd (m_isOne_10 v2 σ1) fun r2 σ2 => if r2 = 0 then m_wrongMust_10_b24 σ2 else bd (m_has_s v1 v2 σ2) fun r3 σ3 => if r3 = 0 then m_wrongMust_10_b29 0 σ3 else m_wrongMust_10_b24 σ3
def m_must_10_b67 (v1 : Int32) (v2 : Int32) (v3 : Int32) (v4 : Int32) (s0 : Int32) (σ : Sg) : Option (Int64 × Sg) :=
  if s0 = 0 then bd (m_isHad_10 v1 v2 σ) fun r1 σ1 => bd (m_weighs_10 v3 v2 σ1) fun r2 σ2 => gd (inB v2 8) (bd (m_partOf_s (-r2) (σ2.2 124 v2.toNatClampNeg) v4 σ2) fun r4 σ4 => some (r4, σ4)) else bd (m_refuseFarther_10 s0 σ) fun r5 σ5 => some (r5, σ5)
def m_must_10_b50 (v1 : Int32) (v2 : Int32) (v3 : Int32) (v4 : Int32) (σ : Sg) : Option (Int64 × Sg) :=
  m_must_10_b67 v1 v2 v3 v4 2 σ
def m_must_10 (v1 : Int32) (v2 : Int32) (v3 : Int32) (v4 : Int32) (σ : Sg) : Option (Int64 × Sg) :=
  bd (m_wrongMust_10 v1 v2 σ) fun r1 σ1 => if r1 = 0 then bd (m_isIn_s v3.toInt64 2 97 σ1) fun r2 σ2 => if r2 = 0 then m_must_10_b50 v1 v2 v3 v4 σ2 else bd (m_isPrime_s v3 σ2) fun r3 σ3 => if r3 = 0 then m_must_10_b50 v1 v2 v3 v4 σ3 else bd (m_isIn_s v4.toInt64 0 1 σ3) fun r4 σ4 => if r4 = 0 then m_must_10_b50 v1 v2 v3 v4 σ4 else bd (m_isScaled_10 v1 σ4) fun r5 σ5 => if r5 = 0 then m_must_10_b67 v1 v2 v3 v4 3 σ5 else m_must_10_b67 v1 v2 v3 v4 0 σ5 else m_must_10_b67 v1 v2 v3 v4 r1 σ1
def m_whole_10_b110 (s0 : Int32) (σ : Sg) : Option (Int32 × Sg) :=
  some (s0, σ)
def m_whole_10_b91 (k50 : Int32 → Int32 → Int32 → Sg → Option (Int32 × Sg)) (v2 : Int32) (v5 : Int32) (s0 : Int32) (s1 : Int32) (σ : Sg) : Option (Int32 × Sg) :=
  k50 v2 (s0 &&& s1) (v5 + 1) σ
def m_whole_10_b86 (k50 : Int32 → Int32 → Int32 → Sg → Option (Int32 × Sg)) (v2 : Int32) (v5 : Int32) (s0 : Int32) (σ : Sg) : Option (Int32 × Sg) :=
  m_whole_10_b91 k50 v2 v5 s0 1 σ
def m_whole_10_H50 (k50 : Int32 → Int32 → Int32 → Sg → Option (Int32 × Sg)) (v2 : Int32) (v4 : Int32) (v5 : Int32) (σ : Sg) : Option (Int32 × Sg) :=
  if 97 < v5 then if v4 = 0 then m_whole_10_b110 0 σ else m_whole_10_b110 1 σ else bd (m_isPrime_s v5 σ) fun r2 σ2 => if r2 = 0 then m_whole_10_b86 k50 v2 v5 v4 σ2 else bd (m_weighs_10 v5 v2 σ2) fun r3 σ3 => gd (inB v2 8) (gd (neBL (σ3.2 124 v2.toNatClampNeg)) (if (lg_cmp (lrm r3 (σ3.2 124 v2.toNatClampNeg)) 0) = 0 then m_whole_10_b86 k50 v2 v5 v4 σ3 else m_whole_10_b91 k50 v2 v5 v4 0 σ3))
def m_whole_10_L50 : Nat → Int32 → Int32 → Int32 → Sg → Option (Int32 × Sg)
  | 0, _, _, _, _ => none
  | n + 1, v2, v4, v5, σ => m_whole_10_H50 (m_whole_10_L50 n) v2 v4 v5 σ
def m_whole_10_b28 (v1 : Int32) (v2 : Int32) (s0 : Int32) (σ : Sg) : Option (Int32 × Sg) :=
  if s0 = 0 then bd (m_isHad_10 v1 v2 σ) fun r1 σ1 => m_whole_10_L50 fu v2 r1 2 σ1 else bd (m_refuse_10 s0 σ) fun r2 σ2 => some (r2, σ2)
def m_whole_10 (v1 : Int32) (v2 : Int32) (σ : Sg) : Option (Int32 × Sg) :=
  bd (m_wrongMust_10 v1 v2 σ) fun r1 σ1 => if r1 = 0 then bd (m_isScaled_10 v1 σ1) fun r2 σ2 => if r2 = 0 then m_whole_10_b28 v1 v2 3 σ2 else m_whole_10_b28 v1 v2 0 σ2 else m_whole_10_b28 v1 v2 r1 σ1
def m_off_10_b91 (k32 : Int32 → Int32 → Int32 → Sg → Option (Int32 × Sg)) (v1 : Int32) (v2 : Int32) (v3 : Int32) (σ : Sg) : Option (Int32 × Sg) :=
  k32 v1 v2 (v3 + 1) σ
def m_off_10_b89 (k32 : Int32 → Int32 → Int32 → Sg → Option (Int32 × Sg)) (v1 : Int32) (v3 : Int32) (s0 : Int32) (s1 : Int32) (σ : Sg) : Option (Int32 × Sg) :=
  m_off_10_b91 k32 v1 (s0 ||| s1) v3 σ
def m_off_10_H32 (k32 : Int32 → Int32 → Int32 → Sg → Option (Int32 × Sg)) (v1 : Int32) (v2 : Int32) (v3 : Int32) (σ : Sg) : Option (Int32 × Sg) :=
  if (σ.1 118 0) ≤ v3 then some (v2, σ) else bd (m_has_s v1 v3 σ) fun r1 σ1 => if r1 = 0 then gd (inB (49 + v3) 139) (if (σ1.1 118 (49 + v3).toNatClampNeg) = 0 then m_off_10_b91 k32 v1 v2 v3 σ1 else bd (m_isHad_10 v1 v3 σ1) fun r3 σ3 => if r3 = 0 then m_off_10_b91 k32 v1 v2 v3 σ3 else bd (m_isAlike_10 σ3) fun r4 σ4 => if r4 = 0 then m_off_10_b89 k32 v1 v3 v2 ((1 : Int32) <<< (v3 &&& 31)) σ4 else m_off_10_b89 k32 v1 v3 v2 0 σ4) else m_off_10_b91 k32 v1 v2 v3 σ1
def m_off_10_L32 : Nat → Int32 → Int32 → Int32 → Sg → Option (Int32 × Sg)
  | 0, _, _, _, _ => none
  | n + 1, v1, v2, v3, σ => m_off_10_H32 (m_off_10_L32 n) v1 v2 v3 σ
def m_off_10 (v1 : Int32) (σ : Sg) : Option (Int32 × Sg) :=
  bd (m_isSet_10 v1 σ) fun r1 σ1 => if r1 = 0 then bd (m_refuse_10 1 σ1) fun r5 σ5 => some (r5, σ5) else bd (m_isScaled_10 v1 σ1) fun r2 σ2 => if r2 = 0 then bd (m_refuse_10 3 σ2) fun r3 σ3 => some (r3, σ3) else m_off_10_L32 fu v1 0 0 σ2
def m_powerBy_10_b48 (k5 : Int32 → Int32 → Int32 → Int32 → Sg → Option (Int32 × Sg)) (v1 : Int32) (v2 : Int32) (v4 : Int32) (s0 : Int32) (s1 : Int32) (σ : Sg) : Option (Int32 × Sg) :=
  k5 v1 v2 (s0 + s1) (v4 + 1) σ
def m_powerBy_10_H5 (k5 : Int32 → Int32 → Int32 → Int32 → Sg → Option (Int32 × Sg)) (v1 : Int32) (v2 : Int32) (v3 : Int32) (v4 : Int32) (σ : Sg) : Option (Int32 × Sg) :=
  if v1 ≤ v4 then some (v3, σ) else gd (inB v4 3) (bd (m_powerOf_10 ((σ.1 129 v4.toNatClampNeg) / 2) v2 σ) fun r2 σ2 => gd (inB v4 3) (if (irm (σ2.1 129 v4.toNatClampNeg) 2) = 0 then m_powerBy_10_b48 k5 v1 v2 v4 v3 r2 σ2 else m_powerBy_10_b48 k5 v1 v2 v4 v3 (-r2) σ2))
def m_powerBy_10_L5 : Nat → Int32 → Int32 → Int32 → Int32 → Sg → Option (Int32 × Sg)
  | 0, _, _, _, _, _ => none
  | n + 1, v1, v2, v3, v4, σ => m_powerBy_10_H5 (m_powerBy_10_L5 n) v1 v2 v3 v4 σ
def m_powerBy_10 (v1 : Int32) (v2 : Int32) (σ : Sg) : Option (Int32 × Sg) :=
  m_powerBy_10_L5 fu v1 v2 0 0 σ
def m_isWanted_10_b30 (k4 : Int32 → Int32 → Int32 → Sg → Option (Int32 × Sg)) (v1 : Int32) (v3 : Int32) (s0 : Int32) (s1 : Int32) (σ : Sg) : Option (Int32 × Sg) :=
  k4 v1 (s0 &&& s1) (v3 + 1) σ
def m_isWanted_10_H4 (k4 : Int32 → Int32 → Int32 → Sg → Option (Int32 × Sg)) (v1 : Int32) (v2 : Int32) (v3 : Int32) (σ : Sg) : Option (Int32 × Sg) :=
  if 5 ≤ v3 then gd (nbB v2) (some (v2, σ)) else bd (m_powerBy_10 v1 v3 σ) fun r1 σ1 => gd (inB v3 5) (if r1 = (σ1.1 130 v3.toNatClampNeg) then m_isWanted_10_b30 k4 v1 v3 v2 1 σ1 else m_isWanted_10_b30 k4 v1 v3 v2 0 σ1)
def m_isWanted_10_L4 : Nat → Int32 → Int32 → Int32 → Sg → Option (Int32 × Sg)
  | 0, _, _, _, _ => none
  | n + 1, v1, v2, v3, σ => m_isWanted_10_H4 (m_isWanted_10_L4 n) v1 v2 v3 σ
def m_isWanted_10 (v1 : Int32) (σ : Sg) : Option (Int32 × Sg) :=
  m_isWanted_10_L4 fu v1 1 0 σ
def m_fills_10_H13 (rs : Int32 → Int32 → Sg → Option (Int32 × Sg)) (k13 : Int32 → Int32 → Int32 → Sg → Option (Int32 × Sg)) (v1 : Int32) (v2 : Int32) (v3 : Int32) (σ : Sg) : Option (Int32 × Sg) :=
  if (2 * (σ.1 118 0)) ≤ v3 then some (0, σ) else gd (inB v1 3) (bd (rs (v1 + 1) v2 (si σ 129 v1.toNatClampNeg v3)) fun r2 σ2 => if r2 = 0 then k13 v1 v2 (v3 + 1) σ2 else some (1, σ2))
def m_fills_10_L13 (rs : Int32 → Int32 → Sg → Option (Int32 × Sg)) : Nat → Int32 → Int32 → Int32 → Sg → Option (Int32 × Sg)
  | 0, _, _, _, _ => none
  | n + 1, v1, v2, v3, σ => m_fills_10_H13 rs (m_fills_10_L13 rs n) v1 v2 v3 σ
def m_fills_10_H (rs : Int32 → Int32 → Sg → Option (Int32 × Sg)) (v1 : Int32) (v2 : Int32) (σ : Sg) : Option (Int32 × Sg) :=
  if v1 = v2 then bd (m_isWanted_10 v2 σ) fun r1 σ1 => gd (nbB r1) (some (r1, σ1)) else m_fills_10_L13 rs fu v1 v2 0 σ
def m_fills_10 : Nat → Int32 → Int32 → Sg → Option (Int32 × Sg)
  | 0, _, _, _ => none
  | n + 1, v1, v2, σ => m_fills_10_H (m_fills_10 n) v1 v2 σ
def m_fewestOf_10_b40 (s0 : Int32) (σ : Sg) : Option (Int32 × Sg) :=
  some (s0, σ)
def m_fewestOf_10_H2 (k2 : Int32 → Int32 → Sg → Option (Int32 × Sg)) (v1 : Int32) (v2 : Int32) (σ : Sg) : Option (Int32 × Sg) :=
  if 3 < v2 then some ((-9), σ) else bd (m_fills_10 12 0 v2 σ) fun r1 σ1 => if r1 = 0 then k2 v1 (v2 + 1) σ1 else if 0 ≤ v1 then if v2 ≤ v1 then m_fewestOf_10_b40 (-9) σ1 else gd (inB v1 3) (m_fewestOf_10_b40 (σ1.1 129 v1.toNatClampNeg) σ1) else m_fewestOf_10_b40 v2 σ1
def m_fewestOf_10_L2 : Nat → Int32 → Int32 → Sg → Option (Int32 × Sg)
  | 0, _, _, _ => none
  | n + 1, v1, v2, σ => m_fewestOf_10_H2 (m_fewestOf_10_L2 n) v1 v2 σ
def m_fewestOf_10 (v1 : Int32) (σ : Sg) : Option (Int32 × Sg) :=
  m_fewestOf_10_L2 fu v1 0 σ
def m_fewest_10_H57 (k57 : Int32 → Int32 → Sg → Option (Int32 × Sg)) (v2 : Int32) (v3 : Int32) (σ : Sg) : Option (Int32 × Sg) :=
  if 5 ≤ v3 then bd (m_fewestOf_10 v2 σ) fun r1 σ1 => some (r1, σ1) else gd (inB v3 8) (gd (inB v3 5) (k57 v2 (v3 + 1) (si σ 130 v3.toNatClampNeg (σ.1 128 v3.toNatClampNeg))))
def m_fewest_10_L57 : Nat → Int32 → Int32 → Sg → Option (Int32 × Sg)
  | 0, _, _, _ => none
  | n + 1, v2, v3, σ => m_fewest_10_H57 (m_fewest_10_L57 n) v2 v3 σ
def m_fewest_10 (v1 : Int32) (v2 : Int32) (σ : Sg) : Option (Int32 × Sg) :=
  bd (m_isList_s v1 σ) fun r1 σ1 => if r1 = 0 then bd (m_refuse_10 1 σ1) fun r10 σ10 => some (r10, σ10) else gd (inB v1 3) (if 0 ≤ (σ1.1 126 v1.toNatClampNeg) then bd (m_tells_10 v1 5 σ1) fun r3 σ3 => if r3 = 0 then bd (m_refuse_10 3 σ3) fun r6 σ6 => some (r6, σ6) else if (-1) ≤ v2 then m_fewest_10_L57 fu v2 0 σ3 else bd (m_refuse_10 4 σ3) fun r4 σ4 => some (r4, σ4) else bd (m_refuse_10 11 σ1) fun r8 σ8 => some (r8, σ8))
def m_differs_10_H3 (k3 : Int32 → Int64 → Int32 → Sg → Option (Int32 × Sg)) (v1 : Int32) (v2 : Int64) (v4 : Int32) (σ : Sg) : Option (Int32 × Sg) :=
  if v1 ≤ v4 then gd (inB v1 969) (some (v1 + 1, sl σ 131 v1.toNatClampNeg v2)) else gd (inB v4 969) (if (lg_cmp (σ.2 131 v4.toNatClampNeg) v2) = 0 then some (v1, σ) else k3 v1 v2 (v4 + 1) σ)
def m_differs_10_L3 : Nat → Int32 → Int64 → Int32 → Sg → Option (Int32 × Sg)
  | 0, _, _, _, _ => none
  | n + 1, v1, v2, v4, σ => m_differs_10_H3 (m_differs_10_L3 n) v1 v2 v4 σ
def m_differs_10 (v1 : Int32) (v2 : Int64) (σ : Sg) : Option (Int32 × Sg) :=
  m_differs_10_L3 fu v1 v2 0 σ
def m_keyOf_10_H5 (k5 : Int32 → Int64 → Int32 → Sg → Option (Int64 × Sg)) (v1 : Int32) (v2 : Int64) (v4 : Int32) (σ : Sg) : Option (Int64 × Sg) :=
  if 5 ≤ v4 then some (v2, σ) else bd (m_powerBy_10 v1 v4 σ) fun r1 σ1 => k5 v1 ((1000 * v2) + r1.toInt64) (v4 + 1) σ1
def m_keyOf_10_L5 : Nat → Int32 → Int64 → Int32 → Sg → Option (Int64 × Sg)
  | 0, _, _, _, _ => none
  | n + 1, v1, v2, v4, σ => m_keyOf_10_H5 (m_keyOf_10_L5 n) v1 v2 v4 σ
def m_keyOf_10 (v1 : Int32) (σ : Sg) : Option (Int64 × Sg) :=
  m_keyOf_10_L5 fu v1 0 0 σ
def m_adds_10_H37 (rs : Int32 → Int32 → Int32 → Sg → Option (Int32 × Sg)) (k37 : Int32 → Int32 → Int32 → Int32 → Sg → Option (Int32 × Sg)) (v1 : Int32) (v2 : Int32) (v4 : Int32) (v5 : Int32) (σ : Sg) : Option (Int32 × Sg) :=
  if (2 * (σ.1 118 0)) ≤ v5 then some (v4, σ) else gd (inB v1 3) (bd (rs (v1 + 1) v2 v4 (si σ 129 v1.toNatClampNeg v5)) fun r2 σ2 => k37 v1 v2 r2 (v5 + 1) σ2)
def m_adds_10_L37 (rs : Int32 → Int32 → Int32 → Sg → Option (Int32 × Sg)) : Nat → Int32 → Int32 → Int32 → Int32 → Sg → Option (Int32 × Sg)
  | 0, _, _, _, _, _ => none
  | n + 1, v1, v2, v4, v5, σ => m_adds_10_H37 rs (m_adds_10_L37 rs n) v1 v2 v4 v5 σ
def m_adds_10_b35 (rs : Int32 → Int32 → Int32 → Sg → Option (Int32 × Sg)) (v1 : Int32) (v2 : Int32) (v4 : Int32) (s0 : Int32) (σ : Sg) : Option (Int32 × Sg) :=
  m_adds_10_L37 rs fu v1 v2 v4 s0 σ
def m_adds_10_H (rs : Int32 → Int32 → Int32 → Sg → Option (Int32 × Sg)) (v1 : Int32) (v2 : Int32) (v3 : Int32) (σ : Sg) : Option (Int32 × Sg) :=
  if v1 = v2 then bd (m_keyOf_10 v2 σ) fun r3 σ3 => bd (m_differs_10 v3 r3 σ3) fun r4 σ4 => some (r4, σ4) else if v1 = 0 then m_adds_10_b35 rs v1 v2 v3 0 σ else gd (inB (v1 - 1) 3) (m_adds_10_b35 rs v1 v2 v3 (σ.1 129 (v1 - 1).toNatClampNeg) σ)
def m_adds_10 : Nat → Int32 → Int32 → Int32 → Sg → Option (Int32 × Sg)
  | 0, _, _, _, _ => none
  | n + 1, v1, v2, v3, σ => m_adds_10_H (m_adds_10 n) v1 v2 v3 σ
def m_had_10_H26 (k26 : Int32 → Int32 → Int32 → Sg → Option (Int32 × Sg)) (v1 : Int32) (v2 : Int32) (v3 : Int32) (σ : Sg) : Option (Int32 × Sg) :=
  if v1 < v3 then some (v2, σ) else bd (m_adds_10 12 0 v3 v2 σ) fun r1 σ1 => k26 v1 r1 (v3 + 1) σ1
def m_had_10_L26 : Nat → Int32 → Int32 → Int32 → Sg → Option (Int32 × Sg)
  | 0, _, _, _, _ => none
  | n + 1, v1, v2, v3, σ => m_had_10_H26 (m_had_10_L26 n) v1 v2 v3 σ
def m_had_10 (v1 : Int32) (σ : Sg) : Option (Int32 × Sg) :=
  if 0 ≤ v1 then if v1 ≤ 3 then m_had_10_L26 fu v1 0 0 σ else bd (m_refuse_10 6 σ) fun r1 σ1 => some (r1, σ1) else bd (m_refuse_10 4 σ) fun r3 σ3 => some (r3, σ3)
def m_here_10_b24 (s0 : Int32) (σ : Sg) : Option (Int32 × Sg) :=
  some (s0, σ)
def m_here_10 (σ : Sg) : Option (Int32 × Sg) :=
  if (σ.1 10 5) ≤ (σ.1 10 17) then m_here_10_b24 (-1) σ else gd (inB (σ.1 10 17) 72) (m_here_10_b24 (σ.1 121 (σ.1 10 17).toNatClampNeg) σ)
def m_isSigned_10_b21 (s0 : Int32) (σ : Sg) : Option (Int32 × Sg) :=
  gd (nbB s0) (some (s0, σ))
def m_isSigned_10_b16 (σ : Sg) : Option (Int32 × Sg) :=
  m_isSigned_10_b21 1 σ
def m_isSigned_10 (v1 : Int32) (v2 : Int32) (σ : Sg) : Option (Int32 × Sg) :=
  bd (m_here_10 σ) fun r1 σ1 => if r1 = v1 then m_isSigned_10_b16 σ1 else bd (m_here_10 σ1) fun r2 σ2 => if r2 = v2 then m_isSigned_10_b16 σ2 else m_isSigned_10_b21 0 σ2
def m_isDigit_10 (σ : Sg) : Option (Int32 × Sg) :=
  bd (m_here_10 σ) fun r1 σ1 => bd (m_isIn_s r1.toInt64 48 57 σ1) fun r2 σ2 => gd (nbB r2) (some (r2, σ2))
def m_readsClosed_10_b18 (rs : Sg → Option (Int32 × Sg)) (σ : Sg) : Option (Int32 × Sg) :=
  some (0, σ)
def m_readsClosed_10_b56 (rs : Sg → Option (Int32 × Sg)) (σ : Sg) : Option (Int32 × Sg) :=
  some (0, σ)
def m_readsClosed_10 (rs : Sg → Option (Int32 × Sg)) (σ : Sg) : Option (Int32 × Sg) :=
  bd (m_here_10 σ) fun r1 σ1 => if r1 = 40 then if (σ1.1 10 18) = 6 then m_readsClosed_10_b18 rs σ1 else bd (rs (si (si σ1 10 18 ((σ1.1 10 18) + 1)) 10 17 (((si σ1 10 18 ((σ1.1 10 18) + 1)).1 10 17) + 1))) fun r2 σ2 => if r2 = 0 then m_readsClosed_10_b56 rs σ2 else bd (m_here_10 σ2) fun r3 σ3 => if r3 = 41 then some (1, si (si σ3 10 18 ((σ3.1 10 18) - 1)) 10 17 (((si σ3 10 18 ((σ3.1 10 18) - 1)).1 10 17) + 1)) else m_readsClosed_10_b56 rs σ3 else m_readsClosed_10_b18 rs σ1
def m_readsAtom_10_b107 (rs : Sg → Option (Int32 × Sg)) (σ : Sg) : Option (Int32 × Sg) :=
  bd (m_readsClosed_10 rs σ) fun r1 σ1 => gd (nbB r1) (some (r1, σ1))
def m_readsAtom_10_b75 (rs : Sg → Option (Int32 × Sg)) (σ : Sg) : Option (Int32 × Sg) :=
  some (1, σ)
def m_readsAtom_10_H47 (rs : Sg → Option (Int32 × Sg)) (k47 : Int32 → Sg → Option (Int32 × Sg)) (v1 : Int32) (σ : Sg) : Option (Int32 × Sg) :=
  if 3 ≤ v1 then m_readsAtom_10_b75 rs σ else bd (m_isDigit_10 σ) fun r1 σ1 => if r1 = 0 then m_readsAtom_10_b75 rs σ1 else k47 (v1 + 1) (si σ1 10 17 ((σ1.1 10 17) + 1))
def m_readsAtom_10_L47 (rs : Sg → Option (Int32 × Sg)) : Nat → Int32 → Sg → Option (Int32 × Sg)
  | 0, _, _ => none
  | n + 1, v1, σ => m_readsAtom_10_H47 rs (m_readsAtom_10_L47 rs n) v1 σ
def m_readsAtom_10 (rs : Sg → Option (Int32 × Sg)) (σ : Sg) : Option (Int32 × Sg) :=
  bd (m_here_10 σ) fun r1 σ1 => bd (m_isIn_s r1.toInt64 65 (((65 + (σ1.1 118 0)) - 1).toInt64) σ1) fun r2 σ2 => if r2 = 0 then bd (m_isDigit_10 σ2) fun r3 σ3 => if r3 = 0 then bd (m_here_10 σ3) fun r4 σ4 => if r4 = 115 then if (σ4.1 10 18) = 6 then some (0, σ4) else m_readsAtom_10_b107 rs (si σ4 10 17 ((σ4.1 10 17) + 1)) else m_readsAtom_10_b107 rs σ4 else m_readsAtom_10_L47 rs fu 0 σ3 else some (1, si σ2 10 17 ((σ2.1 10 17) + 1))
def m_readsPart_10_b72 (rs : Sg → Option (Int32 × Sg)) (v1 : Int32) (s1 : Int32) (s2 : Int32) (σ : Sg) : Option (Int32 × Sg) :=
  gd (nbB v1) (some (v1, si σ 10 17 (s1 + s2)))
def m_readsPart_10_b49 (rs : Sg → Option (Int32 × Sg)) (s1 : Int32) (s2 : Int32) (σ : Sg) : Option (Int32 × Sg) :=
  bd (m_isDigit_10 (si σ 10 17 (s1 + s2))) fun r1 σ1 => if r1 = 0 then m_readsPart_10_b72 rs r1 (σ1.1 10 17) 0 σ1 else m_readsPart_10_b72 rs r1 (σ1.1 10 17) 1 σ1
def m_readsPart_10 (rs : Sg → Option (Int32 × Sg)) (σ : Sg) : Option (Int32 × Sg) :=
  bd (m_readsAtom_10 rs σ) fun r1 σ1 => if r1 = 0 then some (0, σ1) else bd (m_here_10 σ1) fun r2 σ2 => if r2 = 94 then bd (m_here_10 (si σ2 10 17 ((σ2.1 10 17) + 1))) fun r3 σ3 => if r3 = 45 then m_readsPart_10_b49 rs ((si σ2 10 17 ((σ2.1 10 17) + 1)).1 10 17) 1 σ3 else m_readsPart_10_b49 rs ((si σ2 10 17 ((σ2.1 10 17) + 1)).1 10 17) 0 σ3 else some (1, σ2)
def m_readsTerm_10_H19 (rs : Sg → Option (Int32 × Sg)) (k19 : Sg → Option (Int32 × Sg)) (σ : Sg) : Option (Int32 × Sg) :=
  bd (m_isSigned_10 42 47 σ) fun r1 σ1 => if r1 = 0 then some (1, σ1) else bd (m_readsPart_10 rs (si σ1 10 17 ((σ1.1 10 17) + 1))) fun r2 σ2 => if r2 = 0 then some (0, σ2) else k19 σ2
def m_readsTerm_10_L19 (rs : Sg → Option (Int32 × Sg)) : Nat → Sg → Option (Int32 × Sg)
  | 0, _ => none
  | n + 1, σ => m_readsTerm_10_H19 rs (m_readsTerm_10_L19 rs n) σ
def m_readsTerm_10 (rs : Sg → Option (Int32 × Sg)) (σ : Sg) : Option (Int32 × Sg) :=
  bd (m_readsPart_10 rs (si σ 10 19 ((σ.1 10 19) + 1))) fun r1 σ1 => if r1 = 0 then some (0, σ1) else m_readsTerm_10_L19 rs fu σ1
def m_readsSum_10_H9 (rs : Sg → Option (Int32 × Sg)) (k9 : Sg → Option (Int32 × Sg)) (σ : Sg) : Option (Int32 × Sg) :=
  bd (m_isSigned_10 43 45 σ) fun r1 σ1 => if r1 = 0 then some (1, σ1) else bd (m_readsTerm_10 rs (si σ1 10 17 ((σ1.1 10 17) + 1))) fun r2 σ2 => if r2 = 0 then some (0, σ2) else k9 σ2
def m_readsSum_10_L9 (rs : Sg → Option (Int32 × Sg)) : Nat → Sg → Option (Int32 × Sg)
  | 0, _ => none
  | n + 1, σ => m_readsSum_10_H9 rs (m_readsSum_10_L9 rs n) σ
def m_readsSum_10_H (rs : Sg → Option (Int32 × Sg)) (σ : Sg) : Option (Int32 × Sg) :=
  bd (m_readsTerm_10 rs σ) fun r1 σ1 => if r1 = 0 then some (0, σ1) else m_readsSum_10_L9 rs fu σ1
def m_readsSum_10 : Nat → Sg → Option (Int32 × Sg)
  | 0, _ => none
  | n + 1, σ => m_readsSum_10_H (m_readsSum_10 n) σ
def m_readsBoth_10_b16 (σ : Sg) : Option (Int32 × Sg) :=
  some (0, σ)
def m_readsBoth_10_b51 (s0 : Int32) (σ : Sg) : Option (Int32 × Sg) :=
  gd (nbB s0) (some (s0, σ))
def m_readsBoth_10_b50 (σ : Sg) : Option (Int32 × Sg) :=
  m_readsBoth_10_b51 0 σ
def m_readsBoth_10 (σ : Sg) : Option (Int32 × Sg) :=
  bd (m_readsSum_10 12 σ) fun r1 σ1 => if r1 = 0 then m_readsBoth_10_b16 σ1 else bd (m_here_10 σ1) fun r2 σ2 => if r2 = 61 then bd (m_readsSum_10 12 (si σ2 10 17 ((σ2.1 10 17) + 1))) fun r3 σ3 => if r3 = 0 then m_readsBoth_10_b50 σ3 else if (σ3.1 10 17) = (σ3.1 10 5) then m_readsBoth_10_b51 1 σ3 else m_readsBoth_10_b50 σ3 else m_readsBoth_10_b16 σ2
def m_formula_10_b101 (s0 : Int32) (σ : Sg) : Option (Int32 × Sg) :=
  some (s0, σ)
def m_formula_10_b77 (v1 : Int32) (σ : Sg) : Option (Int32 × Sg) :=
  if v1 = 0 then m_formula_10_b101 ((-1000) - ((si σ 10 5 0).1 10 17)) (si σ 10 5 0) else m_formula_10_b101 ((si σ 10 5 0).1 10 19) (si σ 10 5 0)
def m_formula_10_H48 (k48 : Int32 → Int32 → Sg → Option (Int32 × Sg)) (v1 : Int32) (v2 : Int32) (σ : Sg) : Option (Int32 × Sg) :=
  if (σ.1 10 5) ≤ v2 then m_formula_10_b77 v1 σ else gd (inB v2 72) (gd (inB (67 + v2) 139) (k48 v1 (v2 + 1) (si σ 118 (67 + v2).toNatClampNeg (σ.1 121 v2.toNatClampNeg))))
def m_formula_10_L48 : Nat → Int32 → Int32 → Sg → Option (Int32 × Sg)
  | 0, _, _, _ => none
  | n + 1, v1, v2, σ => m_formula_10_H48 (m_formula_10_L48 n) v1 v2 σ
def m_formula_10 (σ : Sg) : Option (Int32 × Sg) :=
  bd (m_readsBoth_10 (si (si (si σ 10 17 0) 10 18 0) 10 19 0)) fun r1 σ1 => if r1 = 0 then m_formula_10_b77 r1 σ1 else m_formula_10_L48 fu r1 0 (si (si σ1 118 65 (σ1.1 10 19)) 118 66 ((si σ1 118 65 (σ1.1 10 19)).1 10 5))
def m_sign_10_b30 (s0 : Int32) (σ : Sg) : Option (Int32 × Sg) :=
  some (s0, σ)
def m_sign_10 (σ : Sg) : Option (Int32 × Sg) :=
  if (σ.1 118 66) ≤ (σ.1 10 23) then m_sign_10_b30 (-1) σ else gd (inB (67 + (σ.1 10 23)) 139) (m_sign_10_b30 (σ.1 118 (67 + (σ.1 10 23)).toNatClampNeg) σ)
def m_isPureAt_10_b28 (k4 : Int32 → Int32 → Int32 → Sg → Option (Int32 × Sg)) (v1 : Int32) (v3 : Int32) (s0 : Int32) (s1 : Int32) (σ : Sg) : Option (Int32 × Sg) :=
  k4 v1 (s0 &&& s1) (v3 + 1) σ
def m_isPureAt_10_H4 (k4 : Int32 → Int32 → Int32 → Sg → Option (Int32 × Sg)) (v1 : Int32) (v2 : Int32) (v3 : Int32) (σ : Sg) : Option (Int32 × Sg) :=
  if 5 ≤ v3 then gd (nbB v2) (some (v2, σ)) else gd (inB ((5 * v1) + v3) 200) (if (σ.1 132 ((5 * v1) + v3).toNatClampNeg) = 0 then m_isPureAt_10_b28 k4 v1 v3 v2 1 σ else m_isPureAt_10_b28 k4 v1 v3 v2 0 σ)
def m_isPureAt_10_L4 : Nat → Int32 → Int32 → Int32 → Sg → Option (Int32 × Sg)
  | 0, _, _, _, _ => none
  | n + 1, v1, v2, v3, σ => m_isPureAt_10_H4 (m_isPureAt_10_L4 n) v1 v2 v3 σ
def m_isPureAt_10 (v1 : Int32) (σ : Sg) : Option (Int32 × Sg) :=
  m_isPureAt_10_L4 fu v1 1 0 σ
def m_sets2_10_H2 (k2 : Int32 → Int32 → Int32 → Sg → Option (Unit × Sg)) (v1 : Int32) (v2 : Int32) (v3 : Int32) (σ : Sg) : Option (Unit × Sg) :=
  if 5 ≤ v3 then some ((), σ) else gd (inB ((5 * v1) + v3) 200) (k2 v1 v2 (v3 + 1) (si σ 132 ((5 * v1) + v3).toNatClampNeg v2))
def m_sets2_10_L2 : Nat → Int32 → Int32 → Int32 → Sg → Option (Unit × Sg)
  | 0, _, _, _, _ => none
  | n + 1, v1, v2, v3, σ => m_sets2_10_H2 (m_sets2_10_L2 n) v1 v2 v3 σ
def m_sets2_10 (v1 : Int32) (v2 : Int32) (σ : Sg) : Option (Unit × Sg) :=
  m_sets2_10_L2 fu v1 v2 0 σ
def m_atom_10_b210 (rs : Int32 → Sg → Option (Unit × Sg)) (σ : Sg) : Option (Unit × Sg) :=
  some ((), σ)
def m_atom_10_H180 (rs : Int32 → Sg → Option (Unit × Sg)) (k180 : Sg → Option (Unit × Sg)) (σ : Sg) : Option (Unit × Sg) :=
  bd (m_sign_10 σ) fun r1 σ1 => bd (m_isIn_s r1.toInt64 48 57 σ1) fun r2 σ2 => if r2 = 0 then m_atom_10_b210 rs σ2 else k180 (si σ2 10 23 ((σ2.1 10 23) + 1))
def m_atom_10_L180 (rs : Int32 → Sg → Option (Unit × Sg)) : Nat → Sg → Option (Unit × Sg)
  | 0, _ => none
  | n + 1, σ => m_atom_10_H180 rs (m_atom_10_L180 rs n) σ
def m_atom_10_b169 (rs : Int32 → Sg → Option (Unit × Sg)) (v1 : Int32) (s1 : Int32) (s2 : Int32) (s3 : Int32) (σ : Sg) : Option (Unit × Sg) :=
  gd (inB s1 72) (bd (m_sets2_10 v1 0 (si σ 134 s1.toNatClampNeg ((s2 ||| s3) &&& 1))) fun _ σ2 => m_atom_10_b210 rs σ2)
def m_atom_10_H58 (rs : Int32 → Sg → Option (Unit × Sg)) (k58 : Int32 → Int32 → Int32 → Sg → Option (Unit × Sg)) (v1 : Int32) (v2 : Int32) (v4 : Int32) (σ : Sg) : Option (Unit × Sg) :=
  if 5 ≤ v4 then m_atom_10_b210 rs σ else bd (m_powerOf_10 (v2 - 65) v4 σ) fun r1 σ1 => gd (inB ((5 * v1) + v4) 200) (k58 v1 v2 (v4 + 1) (si σ1 132 ((5 * v1) + v4).toNatClampNeg r1))
def m_atom_10_L58 (rs : Int32 → Sg → Option (Unit × Sg)) : Nat → Int32 → Int32 → Int32 → Sg → Option (Unit × Sg)
  | 0, _, _, _, _ => none
  | n + 1, v1, v2, v4, σ => m_atom_10_H58 rs (m_atom_10_L58 rs n) v1 v2 v4 σ
def m_atom_10 (rs : Int32 → Sg → Option (Unit × Sg)) (v1 : Int32) (σ : Sg) : Option (Unit × Sg) :=
  bd (m_sign_10 σ) fun r1 σ1 => bd (m_sets2_10 v1 0 (si σ1 10 23 ((σ1.1 10 23) + 1))) fun _ σ2 => bd (m_isIn_s r1.toInt64 65 90 σ2) fun r3 σ3 => if r3 = 0 then if r1 = 40 then bd (rs v1 σ3) fun _ σ9 => m_atom_10_b210 rs (si σ9 10 23 ((σ9.1 10 23) + 1)) else if r1 = 115 then bd (rs v1 (si σ3 10 23 ((σ3.1 10 23) + 1))) fun _ σ4 => gd (inB (σ1.1 10 23) 72) (bd (m_isPureAt_10 v1 (si σ4 10 23 ((σ4.1 10 23) + 1))) fun r6 σ6 => if r6 = 0 then m_atom_10_b169 rs v1 (σ1.1 10 23) ((si σ4 10 23 ((σ4.1 10 23) + 1)).1 134 (σ1.1 10 23).toNatClampNeg) 1 σ6 else m_atom_10_b169 rs v1 (σ1.1 10 23) ((si σ4 10 23 ((σ4.1 10 23) + 1)).1 134 (σ1.1 10 23).toNatClampNeg) 0 σ6) else m_atom_10_L180 rs fu σ3 else m_atom_10_L58 rs fu v1 r1 0 (si σ3 10 24 ((σ3.1 10 24) ||| ((1 : Int32) <<< ((r1 - 65) &&& 31))))
def m_part_10_H80 (rs : Int32 → Sg → Option (Unit × Sg)) (k80 : Int32 → Int32 → Int32 → Sg → Option (Unit × Sg)) (v1 : Int32) (v2 : Int32) (v3 : Int32) (σ : Sg) : Option (Unit × Sg) :=
  if 5 ≤ v3 then some ((), σ) else gd (inB ((5 * v1) + v3) 200) (gd (inB ((5 * v1) + v3) 200) (k80 v1 v2 (v3 + 1) (si σ 132 ((5 * v1) + v3).toNatClampNeg ((σ.1 132 ((5 * v1) + v3).toNatClampNeg) * v2))))
def m_part_10_L80 (rs : Int32 → Sg → Option (Unit × Sg)) : Nat → Int32 → Int32 → Int32 → Sg → Option (Unit × Sg)
  | 0, _, _, _, _ => none
  | n + 1, v1, v2, v3, σ => m_part_10_H80 rs (m_part_10_L80 rs n) v1 v2 v3 σ
def m_part_10_b54 (rs : Int32 → Sg → Option (Unit × Sg)) (v1 : Int32) (v2 : Int32) (s1 : Int32) (s2 : Int32) (σ : Sg) : Option (Unit × Sg) :=
  bd (m_sign_10 (si σ 10 23 (s1 + s2))) fun r1 σ1 => m_part_10_L80 rs fu v1 (v2 * (r1 - 48)) 0 (si σ1 10 23 ((σ1.1 10 23) + 1))
def m_part_10_b39 (rs : Int32 → Sg → Option (Unit × Sg)) (v1 : Int32) (s0 : Int32) (σ : Sg) : Option (Unit × Sg) :=
  if 0 ≤ s0 then m_part_10_b54 rs v1 s0 (σ.1 10 23) 0 σ else m_part_10_b54 rs v1 s0 (σ.1 10 23) 1 σ
def m_part_10 (rs : Int32 → Sg → Option (Unit × Sg)) (v1 : Int32) (σ : Sg) : Option (Unit × Sg) :=
  bd (m_atom_10 rs v1 σ) fun _ σ1 => bd (m_sign_10 σ1) fun r2 σ2 => if r2 = 94 then bd (m_sign_10 (si σ2 10 23 ((σ2.1 10 23) + 1))) fun r3 σ3 => if r3 = 45 then m_part_10_b39 rs v1 (-1) σ3 else m_part_10_b39 rs v1 1 σ3 else some ((), σ2)
def m_term_10_H57 (rs : Int32 → Sg → Option (Unit × Sg)) (k5 : Int32 → Sg → Option (Unit × Sg)) (k57 : Int32 → Int32 → Int32 → Sg → Option (Unit × Sg)) (v1 : Int32) (v2 : Int32) (v3 : Int32) (σ : Sg) : Option (Unit × Sg) :=
  if 5 ≤ v3 then k5 v1 σ else gd (inB ((5 * v1) + v3) 200) (gd (inB ((5 * (v1 + 1)) + v3) 200) (gd (inB ((5 * v1) + v3) 200) (k57 v1 v2 (v3 + 1) (si σ 132 ((5 * v1) + v3).toNatClampNeg ((σ.1 132 ((5 * v1) + v3).toNatClampNeg) + (v2 * (σ.1 132 ((5 * (v1 + 1)) + v3).toNatClampNeg)))))))
def m_term_10_L57 (rs : Int32 → Sg → Option (Unit × Sg)) (k5 : Int32 → Sg → Option (Unit × Sg)) : Nat → Int32 → Int32 → Int32 → Sg → Option (Unit × Sg)
  | 0, _, _, _, _ => none
  | n + 1, v1, v2, v3, σ => m_term_10_H57 rs k5 (m_term_10_L57 rs k5 n) v1 v2 v3 σ
def m_term_10_b37 (rs : Int32 → Sg → Option (Unit × Sg)) (k5 : Int32 → Sg → Option (Unit × Sg)) (v1 : Int32) (s0 : Int32) (σ : Sg) : Option (Unit × Sg) :=
  bd (m_part_10 rs (v1 + 1) (si σ 10 23 ((σ.1 10 23) + 1))) fun _ σ1 => m_term_10_L57 rs k5 fu v1 s0 0 σ1
def m_term_10_b23 (rs : Int32 → Sg → Option (Unit × Sg)) (k5 : Int32 → Sg → Option (Unit × Sg)) (v1 : Int32) (σ : Sg) : Option (Unit × Sg) :=
  bd (m_sign_10 σ) fun r1 σ1 => if r1 = 42 then m_term_10_b37 rs k5 v1 1 σ1 else m_term_10_b37 rs k5 v1 (-1) σ1
def m_term_10_H5 (rs : Int32 → Sg → Option (Unit × Sg)) (k5 : Int32 → Sg → Option (Unit × Sg)) (v1 : Int32) (σ : Sg) : Option (Unit × Sg) :=
  bd (m_sign_10 σ) fun r1 σ1 => if r1 = 42 then m_term_10_b23 rs k5 v1 σ1 else bd (m_sign_10 σ1) fun r2 σ2 => if r2 = 47 then m_term_10_b23 rs k5 v1 σ2 else some ((), σ2)
def m_term_10_L5 (rs : Int32 → Sg → Option (Unit × Sg)) : Nat → Int32 → Sg → Option (Unit × Sg)
  | 0, _, _ => none
  | n + 1, v1, σ => m_term_10_H5 rs (m_term_10_L5 rs n) v1 σ
def m_term_10 (rs : Int32 → Sg → Option (Unit × Sg)) (v1 : Int32) (σ : Sg) : Option (Unit × Sg) :=
  bd (m_part_10 rs v1 σ) fun _ σ1 => m_term_10_L5 rs fu v1 σ1
def m_sum_10_b89 (rs : Int32 → Sg → Option (Unit × Sg)) (k5 : Int32 → Sg → Option (Unit × Sg)) (k47 : Int32 → Int32 → Int32 → Sg → Option (Unit × Sg)) (v1 : Int32) (v2 : Int32) (v3 : Int32) (s1 : Int32) (s2 : Int32) (s3 : Int32) (σ : Sg) : Option (Unit × Sg) :=
  gd (inB s1 72) (k47 v1 v2 (v3 + 1) (si σ 134 s1.toNatClampNeg ((s2 ||| s3) &&& 1)))
def m_sum_10_H47 (rs : Int32 → Sg → Option (Unit × Sg)) (k5 : Int32 → Sg → Option (Unit × Sg)) (k47 : Int32 → Int32 → Int32 → Sg → Option (Unit × Sg)) (v1 : Int32) (v2 : Int32) (v3 : Int32) (σ : Sg) : Option (Unit × Sg) :=
  if 5 ≤ v3 then k5 v1 σ else gd (inB v2 72) (gd (inB ((5 * v1) + v3) 200) (gd (inB ((5 * (v1 + 1)) + v3) 200) (if (σ.1 132 ((5 * v1) + v3).toNatClampNeg) = (σ.1 132 ((5 * (v1 + 1)) + v3).toNatClampNeg) then m_sum_10_b89 rs k5 k47 v1 v2 v3 v2 (σ.1 134 v2.toNatClampNeg) 0 σ else m_sum_10_b89 rs k5 k47 v1 v2 v3 v2 (σ.1 134 v2.toNatClampNeg) 1 σ)))
def m_sum_10_L47 (rs : Int32 → Sg → Option (Unit × Sg)) (k5 : Int32 → Sg → Option (Unit × Sg)) : Nat → Int32 → Int32 → Int32 → Sg → Option (Unit × Sg)
  | 0, _, _, _, _ => none
  | n + 1, v1, v2, v3, σ => m_sum_10_H47 rs k5 (m_sum_10_L47 rs k5 n) v1 v2 v3 σ
def m_sum_10_b23 (rs : Int32 → Sg → Option (Unit × Sg)) (k5 : Int32 → Sg → Option (Unit × Sg)) (v1 : Int32) (σ : Sg) : Option (Unit × Sg) :=
  bd (m_term_10 rs (v1 + 1) (si σ 10 23 ((σ.1 10 23) + 1))) fun _ σ1 => m_sum_10_L47 rs k5 fu v1 ((si σ 10 23 ((σ.1 10 23) + 1)).1 10 23) 0 σ1
def m_sum_10_H5 (rs : Int32 → Sg → Option (Unit × Sg)) (k5 : Int32 → Sg → Option (Unit × Sg)) (v1 : Int32) (σ : Sg) : Option (Unit × Sg) :=
  bd (m_sign_10 σ) fun r1 σ1 => if r1 = 43 then m_sum_10_b23 rs k5 v1 σ1 else bd (m_sign_10 σ1) fun r2 σ2 => if r2 = 45 then m_sum_10_b23 rs k5 v1 σ2 else some ((), σ2)
def m_sum_10_L5 (rs : Int32 → Sg → Option (Unit × Sg)) : Nat → Int32 → Sg → Option (Unit × Sg)
  | 0, _, _ => none
  | n + 1, v1, σ => m_sum_10_H5 rs (m_sum_10_L5 rs n) v1 σ
def m_sum_10_H (rs : Int32 → Sg → Option (Unit × Sg)) (v1 : Int32) (σ : Sg) : Option (Unit × Sg) :=
  bd (m_term_10 rs v1 σ) fun _ σ1 => m_sum_10_L5 rs fu v1 σ1
def m_sum_10 : Nat → Int32 → Sg → Option (Unit × Sg)
  | 0, _, _ => none
  | n + 1, v1, σ => m_sum_10_H (m_sum_10 n) v1 σ
def m_goesThrough_10_b139 (k102 : Int32 → Sg → Option (Unit × Sg)) (v1 : Int32) (s1 : Int32) (s2 : Int32) (s3 : Int32) (σ : Sg) : Option (Unit × Sg) :=
  gd (inB s1 72) (k102 (v1 + 1) (si σ 134 s1.toNatClampNeg ((s2 ||| s3) &&& 1)))
def m_goesThrough_10_H102 (k102 : Int32 → Sg → Option (Unit × Sg)) (v1 : Int32) (σ : Sg) : Option (Unit × Sg) :=
  if 5 ≤ v1 then some ((), σ) else gd (inB (σ.1 10 25) 72) (gd (inB v1 10) (gd (inB (5 + v1) 10) (if (σ.1 133 v1.toNatClampNeg) = (σ.1 133 (5 + v1).toNatClampNeg) then m_goesThrough_10_b139 k102 v1 (σ.1 10 25) (σ.1 134 (σ.1 10 25).toNatClampNeg) 0 σ else m_goesThrough_10_b139 k102 v1 (σ.1 10 25) (σ.1 134 (σ.1 10 25).toNatClampNeg) 1 σ)))
def m_goesThrough_10_L102 : Nat → Int32 → Sg → Option (Unit × Sg)
  | 0, _, _ => none
  | n + 1, v1, σ => m_goesThrough_10_H102 (m_goesThrough_10_L102 n) v1 σ
def m_goesThrough_10_b84 (k33 : Int32 → Sg → Option (Unit × Sg)) (v1 : Int32) (σ : Sg) : Option (Unit × Sg) :=
  k33 (v1 + 1) (si σ 10 23 ((σ.1 10 23) + 1))
def m_goesThrough_10_H45 (k33 : Int32 → Sg → Option (Unit × Sg)) (k45 : Int32 → Int32 → Sg → Option (Unit × Sg)) (v1 : Int32) (v2 : Int32) (σ : Sg) : Option (Unit × Sg) :=
  if 5 ≤ v2 then if v1 = 0 then m_goesThrough_10_b84 k33 v1 (si σ 10 25 (σ.1 10 23)) else m_goesThrough_10_b84 k33 v1 σ else gd (inB v2 200) (gd (inB ((5 * v1) + v2) 10) (k45 v1 (v2 + 1) (si σ 133 ((5 * v1) + v2).toNatClampNeg (σ.1 132 v2.toNatClampNeg))))
def m_goesThrough_10_L45 (k33 : Int32 → Sg → Option (Unit × Sg)) : Nat → Int32 → Int32 → Sg → Option (Unit × Sg)
  | 0, _, _, _ => none
  | n + 1, v1, v2, σ => m_goesThrough_10_H45 k33 (m_goesThrough_10_L45 k33 n) v1 v2 σ
def m_goesThrough_10_H33 (k33 : Int32 → Sg → Option (Unit × Sg)) (v1 : Int32) (σ : Sg) : Option (Unit × Sg) :=
  if 2 ≤ v1 then m_goesThrough_10_L102 fu 0 σ else bd (m_sum_10 12 0 σ) fun _ σ1 => m_goesThrough_10_L45 k33 fu v1 0 σ1
def m_goesThrough_10_L33 : Nat → Int32 → Sg → Option (Unit × Sg)
  | 0, _, _ => none
  | n + 1, v1, σ => m_goesThrough_10_H33 (m_goesThrough_10_L33 n) v1 σ
def m_goesThrough_10_H2 (k2 : Int32 → Sg → Option (Unit × Sg)) (v1 : Int32) (σ : Sg) : Option (Unit × Sg) :=
  if 72 ≤ v1 then m_goesThrough_10_L33 fu 0 (si (si σ 10 23 0) 10 24 0) else gd (inB v1 72) (k2 (v1 + 1) (si σ 134 v1.toNatClampNeg (0 &&& 1)))
def m_goesThrough_10_L2 : Nat → Int32 → Sg → Option (Unit × Sg)
  | 0, _, _ => none
  | n + 1, v1, σ => m_goesThrough_10_H2 (m_goesThrough_10_L2 n) v1 σ
def m_goesThrough_10 (σ : Sg) : Option (Unit × Sg) :=
  m_goesThrough_10_L2 fu 0 σ
def m_wrong_10_b114 (s0 : Int32) (σ : Sg) : Option (Int32 × Sg) :=
  some (s0, σ)
def m_wrong_10_b86 (k47 : Int32 → Int32 → Int32 → Int32 → Sg → Option (Int32 × Sg)) (v1 : Int32) (v2 : Int32) (v4 : Int32) (s0 : Int32) (σ : Sg) : Option (Int32 × Sg) :=
  k47 v1 v2 s0 (v4 + (-1)) σ
def m_wrong_10_b68 (k47 : Int32 → Int32 → Int32 → Int32 → Sg → Option (Int32 × Sg)) (v1 : Int32) (v3 : Int32) (v4 : Int32) (s0 : Int32) (s1 : Int32) (σ : Sg) : Option (Int32 × Sg) :=
  gd (inB v4 72) (if (σ.1 134 v4.toNatClampNeg) = 0 then m_wrong_10_b86 k47 v1 (s0 + s1) v4 v3 σ else m_wrong_10_b86 k47 v1 (s0 + s1) v4 v4 σ)
def m_wrong_10_H47 (k47 : Int32 → Int32 → Int32 → Int32 → Sg → Option (Int32 × Sg)) (v1 : Int32) (v2 : Int32) (v3 : Int32) (v4 : Int32) (σ : Sg) : Option (Int32 × Sg) :=
  if v4 < 0 then if v1 = 0 then m_wrong_10_b114 v3 σ else if v1 = 1 then m_wrong_10_b114 v2 σ else m_wrong_10_b114 (σ.1 10 24) σ else gd (inB v4 72) (if (σ.1 134 v4.toNatClampNeg) = 0 then m_wrong_10_b68 k47 v1 v3 v4 v2 0 σ else m_wrong_10_b68 k47 v1 v3 v4 v2 1 σ)
def m_wrong_10_L47 : Nat → Int32 → Int32 → Int32 → Int32 → Sg → Option (Int32 × Sg)
  | 0, _, _, _, _, _ => none
  | n + 1, v1, v2, v3, v4, σ => m_wrong_10_H47 (m_wrong_10_L47 n) v1 v2 v3 v4 σ
def m_wrong_10 (v1 : Int32) (σ : Sg) : Option (Int32 × Sg) :=
  bd (m_isIn_s v1.toInt64 0 2 σ) fun r1 σ1 => if r1 = 0 then bd (m_refuse_10 2 σ1) fun r5 σ5 => some (r5, σ5) else if (σ1.1 118 66) = 0 then bd (m_refuse_10 3 σ1) fun r3 σ3 => some (r3, σ3) else bd (m_goesThrough_10 σ1) fun _ σ2 => m_wrong_10_L47 fu v1 0 (-9) 71 σ2
def m_sides_10_b84 (s0 : Int32) (σ : Sg) : Option (Int32 × Sg) :=
  some (s0, σ)
def m_sides_10 (v1 : Int32) (v2 : Int32) (σ : Sg) : Option (Int32 × Sg) :=
  bd (m_isUnit_s v2 σ) fun r1 σ1 => if r1 = 0 then bd (m_refuseFar_10 1 σ1) fun r12 σ12 => some (r12, σ12) else bd (m_isIn_s v1.toInt64 0 2 σ1) fun r2 σ2 => if r2 = 0 then bd (m_refuseFar_10 2 σ2) fun r10 σ10 => some (r10, σ10) else if (σ2.1 118 66) = 0 then bd (m_refuseFar_10 3 σ2) fun r8 σ8 => some (r8, σ8) else bd (m_goesThrough_10 σ2) fun _ σ3 => if 2 ≤ v1 then gd (inB v2 10) (gd (inB (5 + v2) 10) (m_sides_10_b84 ((σ3.1 133 v2.toNatClampNeg) - (σ3.1 133 (5 + v2).toNatClampNeg)) σ3)) else gd (inB ((5 * v1) + v2) 10) (m_sides_10_b84 (σ3.1 133 ((5 * v1) + v2).toNatClampNeg) σ3)
def m_mend_10_H33 (k33 : Int32 → Int32 → Sg → Option (Int32 × Sg)) (v1 : Int32) (v2 : Int32) (σ : Sg) : Option (Int32 × Sg) :=
  if 5 ≤ v2 then bd (m_fewestOf_10 v1 σ) fun r1 σ1 => some (r1, σ1) else gd (inB v2 10) (gd (inB (5 + v2) 10) (gd (inB v2 5) (k33 v1 (v2 + 1) (si σ 130 v2.toNatClampNeg ((σ.1 133 v2.toNatClampNeg) - (σ.1 133 (5 + v2).toNatClampNeg))))))
def m_mend_10_L33 : Nat → Int32 → Int32 → Sg → Option (Int32 × Sg)
  | 0, _, _, _ => none
  | n + 1, v1, v2, σ => m_mend_10_H33 (m_mend_10_L33 n) v1 v2 σ
def m_mend_10 (v1 : Int32) (σ : Sg) : Option (Int32 × Sg) :=
  if (-1) ≤ v1 then if (σ.1 118 66) = 0 then bd (m_refuse_10 3 σ) fun r2 σ2 => some (r2, σ2) else bd (m_goesThrough_10 σ) fun _ σ1 => m_mend_10_L33 fu v1 0 σ1 else bd (m_refuse_10 4 σ) fun r4 σ4 => some (r4, σ4)
def m_draws_10 (v1 : Int32) (σ : Sg) : Option (Int32 × Sg) :=
  gd (neB v1) (some (irm ((((si σ 10 26 (((σ.1 10 26) * 1664525) + 1013904223)).1 10 26) &&& 2147483647) / 256) v1, si σ 10 26 (((σ.1 10 26) * 1664525) + 1013904223)))
def m_lots_10_b205 (s0 : Int32) (σ : Sg) : Option (Int32 × Sg) :=
  some (s0, σ)
def m_lots_10_b179 (k54 : Int32 → Int32 → Int32 → Int32 → Int32 → Sg → Option (Int32 × Sg)) (k114 : Int32 → Int32 → Int32 → Int32 → Int32 → Int32 → Sg → Option (Int32 × Sg)) (v1 : Int32) (v3 : Int32) (v4 : Int32) (v6 : Int32) (v7 : Int32) (s0 : Int32) (s1 : Int32) (σ : Sg) : Option (Int32 × Sg) :=
  k114 v1 v3 v4 (s0 + s1) v6 (v7 + 1) σ
def m_lots_10_H126 (k54 : Int32 → Int32 → Int32 → Int32 → Int32 → Sg → Option (Int32 × Sg)) (k114 : Int32 → Int32 → Int32 → Int32 → Int32 → Int32 → Sg → Option (Int32 × Sg)) (k126 : Int32 → Int32 → Int32 → Int32 → Int32 → Int32 → Int32 → Int32 → Sg → Option (Int32 × Sg)) (v1 : Int32) (v3 : Int32) (v4 : Int32) (v5 : Int32) (v6 : Int32) (v7 : Int32) (v8 : Int32) (v9 : Int32) (σ : Sg) : Option (Int32 × Sg) :=
  if (σ.1 118 0) ≤ v9 then if 0 ≤ v8 then m_lots_10_b179 k54 k114 v1 v3 v4 v6 v7 v5 v8 σ else m_lots_10_b179 k54 k114 v1 v3 v4 v6 v7 v5 (-v8) σ else gd (inB v9 8) (bd (m_powerOf_10 v9 v7 σ) fun r3 σ3 => k126 v1 v3 v4 v5 v6 v7 (v8 + ((σ.1 128 v9.toNatClampNeg) * r3)) (v9 + 1) σ3)
def m_lots_10_L126 (k54 : Int32 → Int32 → Int32 → Int32 → Int32 → Sg → Option (Int32 × Sg)) (k114 : Int32 → Int32 → Int32 → Int32 → Int32 → Int32 → Sg → Option (Int32 × Sg)) : Nat → Int32 → Int32 → Int32 → Int32 → Int32 → Int32 → Int32 → Int32 → Sg → Option (Int32 × Sg)
  | 0, _, _, _, _, _, _, _, _, _ => none
  | n + 1, v1, v3, v4, v5, v6, v7, v8, v9, σ => m_lots_10_H126 k54 k114 (m_lots_10_L126 k54 k114 n) v1 v3 v4 v5 v6 v7 v8 v9 σ
def m_lots_10_H114 (k54 : Int32 → Int32 → Int32 → Int32 → Int32 → Sg → Option (Int32 × Sg)) (k114 : Int32 → Int32 → Int32 → Int32 → Int32 → Int32 → Sg → Option (Int32 × Sg)) (v1 : Int32) (v3 : Int32) (v4 : Int32) (v5 : Int32) (v6 : Int32) (v7 : Int32) (σ : Sg) : Option (Int32 × Sg) :=
  if 5 ≤ v7 then k54 v1 v3 v4 v5 (v6 + 1) σ else m_lots_10_L126 k54 k114 fu v1 v3 v4 v5 v6 v7 0 0 σ
def m_lots_10_L114 (k54 : Int32 → Int32 → Int32 → Int32 → Int32 → Sg → Option (Int32 × Sg)) : Nat → Int32 → Int32 → Int32 → Int32 → Int32 → Int32 → Sg → Option (Int32 × Sg)
  | 0, _, _, _, _, _, _, _ => none
  | n + 1, v1, v3, v4, v5, v6, v7, σ => m_lots_10_H114 k54 (m_lots_10_L114 k54 n) v1 v3 v4 v5 v6 v7 σ
def m_lots_10_b108 (k54 : Int32 → Int32 → Int32 → Int32 → Int32 → Sg → Option (Int32 × Sg)) (v1 : Int32) (v3 : Int32) (v5 : Int32) (v6 : Int32) (s0 : Int32) (s1 : Int32) (σ : Sg) : Option (Int32 × Sg) :=
  m_lots_10_L114 k54 fu v1 v3 (s0 + s1) v5 v6 0 σ
def m_lots_10_H63 (k54 : Int32 → Int32 → Int32 → Int32 → Int32 → Sg → Option (Int32 × Sg)) (k63 : Int32 → Int32 → Int32 → Int32 → Int32 → Int32 → Sg → Option (Int32 × Sg)) (v1 : Int32) (v3 : Int32) (v4 : Int32) (v5 : Int32) (v6 : Int32) (v7 : Int32) (σ : Sg) : Option (Int32 × Sg) :=
  if (σ.1 118 0) ≤ v7 then bd (m_isToldPure_10 σ) fun r1 σ1 => if r1 = 0 then m_lots_10_b108 k54 v1 v3 v5 v6 v4 0 σ1 else m_lots_10_b108 k54 v1 v3 v5 v6 v4 1 σ1 else bd (m_draws_10 5 σ) fun r3 σ3 => gd (inB v7 8) (k63 v1 v3 v4 v5 v6 (v7 + 1) (si σ3 128 v7.toNatClampNeg (r3 - 2)))
def m_lots_10_L63 (k54 : Int32 → Int32 → Int32 → Int32 → Int32 → Sg → Option (Int32 × Sg)) : Nat → Int32 → Int32 → Int32 → Int32 → Int32 → Int32 → Sg → Option (Int32 × Sg)
  | 0, _, _, _, _, _, _, _ => none
  | n + 1, v1, v3, v4, v5, v6, v7, σ => m_lots_10_H63 k54 (m_lots_10_L63 k54 n) v1 v3 v4 v5 v6 v7 σ
def m_lots_10_H54 (k54 : Int32 → Int32 → Int32 → Int32 → Int32 → Sg → Option (Int32 × Sg)) (v1 : Int32) (v3 : Int32) (v4 : Int32) (v5 : Int32) (v6 : Int32) (σ : Sg) : Option (Int32 × Sg) :=
  if v1 ≤ v6 then if v3 = 0 then m_lots_10_b205 v4 σ else m_lots_10_b205 v5 σ else m_lots_10_L63 k54 fu v1 v3 v4 v5 v6 0 σ
def m_lots_10_L54 : Nat → Int32 → Int32 → Int32 → Int32 → Int32 → Sg → Option (Int32 × Sg)
  | 0, _, _, _, _, _, _ => none
  | n + 1, v1, v3, v4, v5, v6, σ => m_lots_10_H54 (m_lots_10_L54 n) v1 v3 v4 v5 v6 σ
def m_lots_10 (v1 : Int32) (v2 : Int32) (v3 : Int32) (σ : Sg) : Option (Int32 × Sg) :=
  if 1 ≤ v1 then if v1 ≤ 50 then bd (m_isIn_s v3.toInt64 0 1 σ) fun r1 σ1 => if r1 = 0 then bd (m_refuse_10 2 σ1) fun r2 σ2 => some (r2, σ2) else m_lots_10_L54 fu v1 v3 0 0 0 (si σ1 10 26 v2) else bd (m_refuse_10 6 σ) fun r4 σ4 => some (r4, σ4) else bd (m_refuse_10 4 σ) fun r6 σ6 => some (r6, σ6)
def m_list_10_H46 (k46 : Int32 → Int32 → Sg → Option (Int32 × Sg)) (v1 : Int32) (v3 : Int32) (σ : Sg) : Option (Int32 × Sg) :=
  if 40 ≤ v3 then some (1, σ) else gd (inB ((40 * v1) + v3) 120) (k46 v1 (v3 + 1) (si σ 127 ((40 * v1) + v3).toNatClampNeg 0))
def m_list_10_L46 : Nat → Int32 → Int32 → Sg → Option (Int32 × Sg)
  | 0, _, _, _ => none
  | n + 1, v1, v3, σ => m_list_10_H46 (m_list_10_L46 n) v1 v3 σ
def m_list_10 (v1 : Int32) (v2 : Int32) (σ : Sg) : Option (Int32 × Sg) :=
  bd (m_isList_s v1 σ) fun r1 σ1 => if r1 = 0 then bd (m_refuse_10 1 σ1) fun r7 σ7 => some (r7, σ7) else if v2 ≤ 40 then if 0 ≤ v2 then gd (inB v1 3) (m_list_10_L46 fu v1 0 (si σ1 126 v1.toNatClampNeg v2)) else bd (m_refuse_10 14 σ1) fun r3 σ3 => some (r3, σ3) else bd (m_refuse_10 6 σ1) fun r5 σ5 => some (r5, σ5)
def m_isCell_10 (v1 : Int32) (v2 : Int32) (σ : Sg) : Option (Int32 × Sg) :=
  gd (inB v1 3) (bd (m_isIn_s v2.toInt64 0 (((σ.1 126 v1.toNatClampNeg) - 1).toInt64) σ) fun r2 σ2 => gd (nbB r2) (some (r2, σ2)))
def m_wrongCell_10_b40 (s0 : Int32) (σ : Sg) : Option (Int32 × Sg) :=
  some (s0, σ)
def m_wrongCell_10 (v1 : Int32) (v2 : Int32) (σ : Sg) : Option (Int32 × Sg) :=
  bd (m_isList_s v1 σ) fun r1 σ1 => if r1 = 0 then m_wrongCell_10_b40 1 σ1 else gd (inB v1 3) (if 0 ≤ (σ1.1 126 v1.toNatClampNeg) then bd (m_isCell_10 v1 v2 σ1) fun r3 σ3 => if r3 = 0 then m_wrongCell_10_b40 13 σ3 else m_wrongCell_10_b40 0 σ3 else m_wrongCell_10_b40 11 σ1)
def m_put_10 (v1 : Int32) (v2 : Int32) (v3 : Int32) (σ : Sg) : Option (Int32 × Sg) :=
  bd (m_wrongCell_10 v1 v2 σ) fun r1 σ1 => if r1 = 0 then gd (inB ((40 * v1) + v2) 120) (some (1, si σ1 127 ((40 * v1) + v2).toNatClampNeg v3)) else bd (m_refuse_10 r1 σ1) fun r3 σ3 => some (r3, σ3)
def m_look_10_b30 (s0 : Int32) (σ : Sg) : Option (Int32 × Sg) :=
  some (s0, σ)
def m_look_10 (v1 : Int32) (v2 : Int32) (σ : Sg) : Option (Int32 × Sg) :=
  bd (m_wrongCell_10 v1 v2 σ) fun r1 σ1 => if r1 = 0 then gd (inB ((40 * v1) + v2) 120) (m_look_10_b30 (σ1.1 127 ((40 * v1) + v2).toNatClampNeg) σ1) else bd (m_refuseFar_10 r1 σ1) fun r3 σ3 => m_look_10_b30 r3 σ3
def m_lays3_10_b19 (σ : Sg) : Option (Int32 × Sg) :=
  bd (m_refuse_10 1 σ) fun r1 σ1 => some (r1, σ1)
def m_lays3_10_b62 (σ : Sg) : Option (Int32 × Sg) :=
  bd (m_refuse_10 13 σ) fun r1 σ1 => some (r1, σ1)
def m_lays3_10_H78 (k78 : Int32 → Int32 → Int32 → Sg → Option (Int32 × Sg)) (v1 : Int32) (v2 : Int32) (v5 : Int32) (σ : Sg) : Option (Int32 × Sg) :=
  if (σ.1 118 0) ≤ v5 then some (σ.1 118 0, σ) else gd (inB v5 8) (gd (inB (((40 * v1) + v2) + v5) 120) (k78 v1 v2 (v5 + 1) (si σ 127 (((40 * v1) + v2) + v5).toNatClampNeg ((σ.2 124 v5.toNatClampNeg).toInt32))))
def m_lays3_10_L78 : Nat → Int32 → Int32 → Int32 → Sg → Option (Int32 × Sg)
  | 0, _, _, _, _ => none
  | n + 1, v1, v2, v5, σ => m_lays3_10_H78 (m_lays3_10_L78 n) v1 v2 v5 σ
def m_lays3_10 (v1 : Int32) (v2 : Int32) (v3 : Int32) (σ : Sg) : Option (Int32 × Sg) :=
  bd (m_ownOf_10 v3 σ) fun r1 σ1 => bd (m_isList_s v1 σ1) fun r2 σ2 => if r2 = 0 then m_lays3_10_b19 σ2 else if 0 ≤ r1 then gd (inB v1 3) (if 0 ≤ (σ2.1 126 v1.toNatClampNeg) then if v2 < 0 then m_lays3_10_b62 σ2 else gd (inB v1 3) (if (σ2.1 118 0) ≤ ((σ2.1 126 v1.toNatClampNeg) - v2) then bd (m_groups_10 r1 σ2) fun _ σ5 => m_lays3_10_L78 fu v1 v2 0 σ5 else m_lays3_10_b62 σ2) else bd (m_refuse_10 11 σ2) fun r8 σ8 => some (r8, σ8)) else m_lays3_10_b19 σ2
def m_judge_10_b77 (v2 : Int32) (σ : Sg) : Option (Int32 × Sg) :=
  some (v2, σ)
def m_judge_10_H31 (k31 : Int32 → Int32 → Sg → Option (Int32 × Sg)) (v1 : Int32) (v2 : Int32) (σ : Sg) : Option (Int32 × Sg) :=
  gd (inB v1 3) (if (σ.1 126 v1.toNatClampNeg) ≤ v2 then some ((-9), σ) else if (5 * (σ.1 118 0)) ≤ v2 then m_judge_10_b77 v2 σ else gd (inB ((40 * v1) + v2) 120) (bd (m_powerOf_10 (v2 / 5) (irm v2 5) σ) fun r3 σ3 => if (σ.1 127 ((40 * v1) + v2).toNatClampNeg) = r3 then k31 v1 (v2 + 1) σ3 else m_judge_10_b77 v2 σ3))
def m_judge_10_L31 : Nat → Int32 → Int32 → Sg → Option (Int32 × Sg)
  | 0, _, _, _ => none
  | n + 1, v1, v2, σ => m_judge_10_H31 (m_judge_10_L31 n) v1 v2 σ
def m_judge_10 (v1 : Int32) (σ : Sg) : Option (Int32 × Sg) :=
  bd (m_isList_s v1 σ) fun r1 σ1 => if r1 = 0 then bd (m_refuse_10 1 σ1) fun r5 σ5 => some (r5, σ5) else gd (inB v1 3) (if 0 ≤ (σ1.1 126 v1.toNatClampNeg) then m_judge_10_L31 fu v1 0 σ1 else bd (m_refuse_10 11 σ1) fun r3 σ3 => some (r3, σ3))
def m_undo_10_b81 (σ : Sg) : Option (Int32 × Sg) :=
  some (σ.1 10 7, σ)
def m_undo_10 (σ : Sg) : Option (Int32 × Sg) :=
  if (σ.1 10 7) = 0 then bd (m_refuse_10 3 σ) fun r9 σ9 => some (r9, σ9) else gd (inB (5 * ((si σ 10 7 ((σ.1 10 7) - 1)).1 10 7)) 100) (gd (inB ((5 * ((si σ 10 7 ((σ.1 10 7) - 1)).1 10 7)) + 1) 100) (gd (inB ((si σ 10 7 ((σ.1 10 7) - 1)).1 122 (5 * ((si σ 10 7 ((σ.1 10 7) - 1)).1 10 7)).toNatClampNeg) 139) (gd (inB ((5 * ((si σ 10 7 ((σ.1 10 7) - 1)).1 10 7)) + 2) 100) (if ((si (si σ 10 7 ((σ.1 10 7) - 1)) 118 ((si σ 10 7 ((σ.1 10 7) - 1)).1 122 (5 * ((si σ 10 7 ((σ.1 10 7) - 1)).1 10 7)).toNatClampNeg).toNatClampNeg ((si σ 10 7 ((σ.1 10 7) - 1)).1 122 ((5 * ((si σ 10 7 ((σ.1 10 7) - 1)).1 10 7)) + 1).toNatClampNeg)).1 122 ((5 * ((si σ 10 7 ((σ.1 10 7) - 1)).1 10 7)) + 2).toNatClampNeg) < 0 then m_undo_10_b81 (si (si σ 10 7 ((σ.1 10 7) - 1)) 118 ((si σ 10 7 ((σ.1 10 7) - 1)).1 122 (5 * ((si σ 10 7 ((σ.1 10 7) - 1)).1 10 7)).toNatClampNeg).toNatClampNeg ((si σ 10 7 ((σ.1 10 7) - 1)).1 122 ((5 * ((si σ 10 7 ((σ.1 10 7) - 1)).1 10 7)) + 1).toNatClampNeg)) else gd (inB ((5 * ((si σ 10 7 ((σ.1 10 7) - 1)).1 10 7)) + 2) 100) (gd (inB ((5 * ((si σ 10 7 ((σ.1 10 7) - 1)).1 10 7)) + 3) 100) (gd (inB ((si (si σ 10 7 ((σ.1 10 7) - 1)) 118 ((si σ 10 7 ((σ.1 10 7) - 1)).1 122 (5 * ((si σ 10 7 ((σ.1 10 7) - 1)).1 10 7)).toNatClampNeg).toNatClampNeg ((si σ 10 7 ((σ.1 10 7) - 1)).1 122 ((5 * ((si σ 10 7 ((σ.1 10 7) - 1)).1 10 7)) + 1).toNatClampNeg)).1 122 ((5 * ((si σ 10 7 ((σ.1 10 7) - 1)).1 10 7)) + 2).toNatClampNeg) 139) (m_undo_10_b81 (si (si (si σ 10 7 ((σ.1 10 7) - 1)) 118 ((si σ 10 7 ((σ.1 10 7) - 1)).1 122 (5 * ((si σ 10 7 ((σ.1 10 7) - 1)).1 10 7)).toNatClampNeg).toNatClampNeg ((si σ 10 7 ((σ.1 10 7) - 1)).1 122 ((5 * ((si σ 10 7 ((σ.1 10 7) - 1)).1 10 7)) + 1).toNatClampNeg)) 118 ((si (si σ 10 7 ((σ.1 10 7) - 1)) 118 ((si σ 10 7 ((σ.1 10 7) - 1)).1 122 (5 * ((si σ 10 7 ((σ.1 10 7) - 1)).1 10 7)).toNatClampNeg).toNatClampNeg ((si σ 10 7 ((σ.1 10 7) - 1)).1 122 ((5 * ((si σ 10 7 ((σ.1 10 7) - 1)).1 10 7)) + 1).toNatClampNeg)).1 122 ((5 * ((si σ 10 7 ((σ.1 10 7) - 1)).1 10 7)) + 2).toNatClampNeg).toNatClampNeg ((si (si σ 10 7 ((σ.1 10 7) - 1)) 118 ((si σ 10 7 ((σ.1 10 7) - 1)).1 122 (5 * ((si σ 10 7 ((σ.1 10 7) - 1)).1 10 7)).toNatClampNeg).toNatClampNeg ((si σ 10 7 ((σ.1 10 7) - 1)).1 122 ((5 * ((si σ 10 7 ((σ.1 10 7) - 1)).1 10 7)) + 1).toNatClampNeg)).1 122 ((5 * ((si σ 10 7 ((σ.1 10 7) - 1)).1 10 7)) + 3).toNatClampNeg)))))))))
def m_image_10_H2 (k2 : Int32 → Sg → Option (Int32 × Sg)) (v1 : Int32) (σ : Sg) : Option (Int32 × Sg) :=
  if 139 ≤ v1 then some ((si σ 10 2 1).1 118 0, si σ 10 2 1) else gd (inB v1 139) (gd (inB v1 139) (k2 (v1 + 1) (si σ 119 v1.toNatClampNeg (σ.1 118 v1.toNatClampNeg))))
def m_image_10_L2 : Nat → Int32 → Sg → Option (Int32 × Sg)
  | 0, _, _ => none
  | n + 1, v1, σ => m_image_10_H2 (m_image_10_L2 n) v1 σ
def m_image_10 (σ : Sg) : Option (Int32 × Sg) :=
  m_image_10_L2 fu 0 σ
def m_on_10_H15 (k15 : Int32 → Sg → Option (Int32 × Sg)) (v1 : Int32) (σ : Sg) : Option (Int32 × Sg) :=
  if 139 ≤ v1 then some ((si σ 10 7 0).1 118 0, si σ 10 7 0) else gd (inB v1 139) (gd (inB v1 139) (k15 (v1 + 1) (si σ 118 v1.toNatClampNeg (σ.1 119 v1.toNatClampNeg))))
def m_on_10_L15 : Nat → Int32 → Sg → Option (Int32 × Sg)
  | 0, _, _ => none
  | n + 1, v1, σ => m_on_10_H15 (m_on_10_L15 n) v1 σ
def m_on_10 (σ : Sg) : Option (Int32 × Sg) :=
  if (σ.1 10 2) = 0 then bd (m_refuse_10 3 σ) fun r1 σ1 => some (r1, σ1) else m_on_10_L15 fu 0 σ
def m_scales_10_b34 (k4 : Int32 → Int32 → Sg → Option (Int32 × Sg)) (v2 : Int32) (s0 : Int32) (s1 : Int32) (σ : Sg) : Option (Int32 × Sg) :=
  k4 (s0 ||| s1) (v2 + 1) σ
def m_scales_10_H4 (k4 : Int32 → Int32 → Sg → Option (Int32 × Sg)) (v1 : Int32) (v2 : Int32) (σ : Sg) : Option (Int32 × Sg) :=
  if (σ.1 118 0) ≤ v2 then some (v1, σ) else gd (inB (49 + v2) 139) (if (σ.1 118 (49 + v2).toNatClampNeg) ≤ 0 then m_scales_10_b34 k4 v2 v1 0 σ else m_scales_10_b34 k4 v2 v1 ((1 : Int32) <<< (v2 &&& 31)) σ)
def m_scales_10_L4 : Nat → Int32 → Int32 → Sg → Option (Int32 × Sg)
  | 0, _, _, _ => none
  | n + 1, v1, v2, σ => m_scales_10_H4 (m_scales_10_L4 n) v1 v2 σ
def m_scales_10 (σ : Sg) : Option (Int32 × Sg) :=
  m_scales_10_L4 fu 0 0 σ
def m_count_10_b75 (s0 : Int32) (σ : Sg) : Option (Int32 × Sg) :=
  some (s0, σ)
def m_count_10_b109 (s0 : Int32) (σ : Sg) : Option (Int32 × Sg) :=
  some (s0, σ)
def m_count_10 (v1 : Int32) (σ : Sg) : Option (Int32 × Sg) :=
  if v1 = 0 then some (σ.1 118 0, σ) else if v1 = 1 then some (σ.1 10 5, σ) else if v1 = 2 then bd (m_scales_10 σ) fun r4 σ4 => some (r4, σ4) else if v1 = 3 then if (σ.1 118 66) = 0 then m_count_10_b75 (-9) σ else m_count_10_b75 (σ.1 118 65) σ else if v1 = 4 then some (σ.1 10 7, σ) else bd (m_isIn_s v1.toInt64 11 16 σ) fun r8 σ8 => if r8 = 0 then m_count_10_b109 (-9) σ8 else gd (inB (v1 - 10) 7) (m_count_10_b109 (σ8.1 120 (v1 - 10).toNatClampNeg) σ8)
