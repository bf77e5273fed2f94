/-! ===== methods as plain functions ===== -/
def gd {α : Type} (b : Bool) (x : Option α) : Option α := bif b then x else none
def bd {α β : Type} (x : Option (α × Sg)) (f : α → Sg → Option β) : Option β := match x with
  | none => none
  | some (v, s) => f v s
theorem gd_some {α : Type} {b : Bool} {x : Option α} {r : α} (h : gd b x = some r) : b = true ∧ x = some r := by
  cases b with
  | false => cases h
  | true => exact ⟨rfl, h⟩
theorem some_pair {α β : Type} {a b : α} {x y : β} (h : some (a, x) = some (b, y)) : a = b ∧ x = y := by
  simp only [Option.some.injEq, Prod.mk.injEq] at h
  exact h
theorem bd_some {α β : Type} {x : Option (α × Sg)} {f : α → Sg → Option β} {r : β} (h : bd x f = some r) : ∃ v s, x = some (v, s) ∧ f v s = some r := by
  match x, h with
  | some (v, s), h => exact ⟨v, s, rfl, h⟩
/-- more rounds than any loop makes -/
def fu : Nat := 20000
def inB (i : Int32) (n : Nat) : Bool := !(decide (i < 0)) && Nat.blt i.toNatClampNeg n
theorem inB_in {i : Int32} {n : Nat} (h : inB i n = true) : vp_in i n := by
  simp only [inB, Bool.and_eq_true, Bool.not_eq_true', decide_eq_false_iff_not, Nat.blt_eq] at h
  intro q
  rcases q with q | q
  · exact h.1 q
  · omega
def arB (k c : Nat) (i : Int32) : Bool := (ck c == k) && inB i (al c)
theorem arB_in {k c : Nat} {i : Int32} (h : arB k c i = true) : ck c = k ∧ vp_in i (al c) := by
  simp only [arB, Bool.and_eq_true, beq_iff_eq] at h
  exact ⟨h.1, inB_in h.2⟩
def ckB (c : Nat) : Bool := Nat.blt (ck c) 5
theorem ckB_lt {c : Nat} (h : ckB c = true) : ck c < 5 := by simpa [ckB] using h
def neB (x : Int32) : Bool := !(decide (x = 0))
theorem neB_ne {x : Int32} (h : neB x = true) : ¬ x = 0 := by simpa [neB] using h
def neBL (x : Int64) : Bool := !(decide (x = 0))
theorem neBL_ne {x : Int64} (h : neBL x = true) : ¬ x = 0 := by simpa [neBL] using h
def nbB (x : Int32) : Bool := decide (x = 0) || decide (x = 1)
theorem nbB_ok {x : Int32} (h : nbB x = true) : nb x := by simpa [nbB, nb] using h
def cpB (c0 c1 : Nat) (sp dp n : Int32) : Bool := (ck c0 == 0) && (ck c1 == 0) && !(decide (sp < 0)) && !(decide (dp < 0)) && !(decide (n < 0)) && Nat.ble (sp.toNatClampNeg + n.toNatClampNeg) (al c0) && Nat.ble (dp.toNatClampNeg + n.toNatClampNeg) (al c1)
theorem cpB_ok {c0 c1 : Nat} {sp dp n : Int32} {k : Nat} (hk : k ≤ 8) (h : cpB c0 c1 sp dp n = true) : (ck c0 = 0 ∧ ck c1 = 0 ∧ k ≤ 8) ∧ (¬ sp < 0 ∧ ¬ dp < 0 ∧ ¬ n < 0) ∧ sp.toNatClampNeg + n.toNatClampNeg ≤ al c0 ∧ dp.toNatClampNeg + n.toNatClampNeg ≤ al c1 := by
  simp only [cpB, Bool.and_eq_true, beq_iff_eq, Bool.not_eq_true', decide_eq_false_iff_not, Nat.ble_eq] at h
  obtain ⟨⟨⟨⟨⟨⟨h1, h2⟩, h3⟩, h4⟩, h5⟩, h6⟩, h7⟩ := h
  exact ⟨⟨h1, h2, hk⟩, ⟨h3, h4, h5⟩, h6, h7⟩
theorem conj_c {p : Prop} {l : List Prop} (h1 : p) (h2 : conj l) : conj (p :: l) := ⟨h1, h2⟩
section RCX
variable {X : RO} {G : Env1} {cs : List (List Ent)} {Q : Option Value → Sg → Prop} {lv : LV} {st : List Value} {σ : Sg}
theorem Rc.ifp {c : Prop} {i : Decidable c} {a b : Nat} (hc : c) (h : Rc X G cs (a, lv, st, σ) Q) : Rc X G cs (@ite Nat c i a b, lv, st, σ) Q := by rw [if_pos hc]; exact h
theorem Rc.ifn {c : Prop} {i : Decidable c} {a b : Nat} (hc : ¬ c) (h : Rc X G cs (b, lv, st, σ) Q) : Rc X G cs (@ite Nat c i a b, lv, st, σ) Q := by rw [if_neg hc]; exact h
theorem Rc.sw0 {x : Int32} {d : Nat} {k : Int} (h : Rc X G cs (d, lv, st, σ) Q) : Rc X G cs (swt x d k [], lv, st, σ) Q := h
theorem Rc.sw1 {x : Int32} {d : Nat} {k t : Int} {r : List Int} (hc : x = Int32.ofInt k) (h : Rc X G cs (t.toNat, lv, st, σ) Q) : Rc X G cs (swt x d k (t :: r), lv, st, σ) Q := by unfold swt; rw [if_pos hc]; exact h
theorem Rc.sw2 {x : Int32} {d : Nat} {k t : Int} {r : List Int} (hc : ¬ x = Int32.ofInt k) (h : Rc X G cs (swt x d (k + 1) r, lv, st, σ) Q) : Rc X G cs (swt x d k (t :: r), lv, st, σ) Q := by unfold swt; rw [if_neg hc]; exact h
end RCX
def j_refused_0_b22 (v1 : Int32) (σ : Sg) : Option (Int32 × Sg) :=
  some (v1, σ)
def j_refused_0 (v1 : Int32) (σ : Sg) : Option (Int32 × Sg) :=
  if (-1) < v1 then j_refused_0_b22 v1 σ else if v1 < (-6) then j_refused_0_b22 v1 σ else gd (inB (-v1) 7) (gd (inB (-v1) 7) (j_refused_0_b22 v1 (si σ 116 (-v1).toNatClampNeg ((σ.1 116 (-v1).toNatClampNeg) + 1))))
def j_letter_0_b27 (σ : Sg) : Option (Int32 × Sg) :=
  bd (j_refused_0 (-6) σ) fun r1 σ1 => some (r1, σ1)
def j_letter_0 (v1 : Int32) (σ : Sg) : Option (Int32 × Sg) :=
  if 0 ≤ v1 then if 255 < v1 then j_letter_0_b27 σ else if (σ.1 0 9) < 72 then gd (inB (σ.1 0 9) 72) (some ((si (si σ 107 (σ.1 0 9).toNatClampNeg v1) 0 9 (((si σ 107 (σ.1 0 9).toNatClampNeg v1).1 0 9) + 1)).1 0 9, si (si σ 107 (σ.1 0 9).toNatClampNeg v1) 0 9 (((si σ 107 (σ.1 0 9).toNatClampNeg v1).1 0 9) + 1))) else j_letter_0_b27 σ else bd (j_refused_0 (-4) σ) fun r4 σ4 => some (r4, σ4)
def j_forget_29 (σ : Sg) : Option (Unit × Sg) :=
  some ((), si σ 29 2 0)
def j_fillAII_x_H5 (k5 : Nat → Int32 → Int32 → Int32 → Sg → Option (Unit × Sg)) (v0 : Nat) (v1 : Int32) (v2 : Int32) (v3 : Int32) (σ : Sg) : Option (Unit × Sg) :=
  if v3 ≤ v2 then some ((), σ) else gd (arB 0 v0 v2) (k5 v0 v1 (v2 + 1) v3 (si σ v0 v2.toNatClampNeg v1))
def j_fillAII_x_L5 : Nat → Nat → Int32 → Int32 → Int32 → Sg → Option (Unit × Sg)
  | 0, _, _, _, _, _ => none
  | n + 1, v0, v1, v2, v3, σ => j_fillAII_x_H5 (j_fillAII_x_L5 n) v0 v1 v2 v3 σ
def j_fillAII_x (v0 : Nat) (v1 : Int32) (σ : Sg) : Option (Unit × Sg) :=
  gd (ckB v0) (j_fillAII_x_L5 fu v0 v1 0 (Int32.ofNat (al v0)) σ)
def j_add_1_b62 (σ : Sg) : Option (Unit × Sg) :=
  some ((), σ)
def j_add_1 (v1 : Int32) (σ : Sg) : Option (Unit × Sg) :=
  if 8 ≤ (σ.1 1 0) then j_add_1_b62 σ else gd (inB (σ.1 1 0) 8) (gd (inB ((si σ 2 (σ.1 1 0).toNatClampNeg v1).1 1 0) 8) (gd (inB ((si (si σ 2 (σ.1 1 0).toNatClampNeg v1) 12 ((si σ 2 (σ.1 1 0).toNatClampNeg v1).1 1 0).toNatClampNeg 0).1 1 0) 8) (gd (inB ((si (si (si σ 2 (σ.1 1 0).toNatClampNeg v1) 12 ((si σ 2 (σ.1 1 0).toNatClampNeg v1).1 1 0).toNatClampNeg 0) 13 ((si (si σ 2 (σ.1 1 0).toNatClampNeg v1) 12 ((si σ 2 (σ.1 1 0).toNatClampNeg v1).1 1 0).toNatClampNeg 0).1 1 0).toNatClampNeg 1).1 1 0) 8) (bd (j_fillAII_x (3 + 1 + ((si (si (si σ 2 (σ.1 1 0).toNatClampNeg v1) 12 ((si σ 2 (σ.1 1 0).toNatClampNeg v1).1 1 0).toNatClampNeg 0) 13 ((si (si σ 2 (σ.1 1 0).toNatClampNeg v1) 12 ((si σ 2 (σ.1 1 0).toNatClampNeg v1).1 1 0).toNatClampNeg 0).1 1 0).toNatClampNeg 1).1 1 0).toNatClampNeg) 0 (si (si (si σ 2 (σ.1 1 0).toNatClampNeg v1) 12 ((si σ 2 (σ.1 1 0).toNatClampNeg v1).1 1 0).toNatClampNeg 0) 13 ((si (si σ 2 (σ.1 1 0).toNatClampNeg v1) 12 ((si σ 2 (σ.1 1 0).toNatClampNeg v1).1 1 0).toNatClampNeg 0).1 1 0).toNatClampNeg 1)) fun _ σ5 => j_add_1_b62 (si σ5 1 0 ((σ5.1 1 0) + 1))))))
def j_bringUp_62_H25 (k25 : Int32 → Int32 → Sg → Option (Int32 × Sg)) (v2 : Int32) (v3 : Int32) (σ : Sg) : Option (Int32 × Sg) :=
  if (σ.1 62 2) ≤ v3 then some (1, σ) else gd (inB v2 5) (gd (arB 1 (63 + 1 + v2.toNatClampNeg) v3) (gd (inB v2 5) (gd (inB (σ.1 62 3) 5) (gd (arB 1 (63 + 1 + (σ.1 62 3).toNatClampNeg) v3) (gd (arB 1 (63 + 1 + v2.toNatClampNeg) v3) (gd (inB ((sl σ (63 + 1 + v2.toNatClampNeg) v3.toNatClampNeg (σ.2 (63 + 1 + (σ.1 62 3).toNatClampNeg) v3.toNatClampNeg)).1 62 3) 5) (gd (arB 1 (63 + 1 + ((sl σ (63 + 1 + v2.toNatClampNeg) v3.toNatClampNeg (σ.2 (63 + 1 + (σ.1 62 3).toNatClampNeg) v3.toNatClampNeg)).1 62 3).toNatClampNeg) v3) (k25 v2 (v3 + 1) (sl (sl σ (63 + 1 + v2.toNatClampNeg) v3.toNatClampNeg (σ.2 (63 + 1 + (σ.1 62 3).toNatClampNeg) v3.toNatClampNeg)) (63 + 1 + ((sl σ (63 + 1 + v2.toNatClampNeg) v3.toNatClampNeg (σ.2 (63 + 1 + (σ.1 62 3).toNatClampNeg) v3.toNatClampNeg)).1 62 3).toNatClampNeg) v3.toNatClampNeg (σ.2 (63 + 1 + v2.toNatClampNeg) v3.toNatClampNeg))))))))))
def j_bringUp_62_L25 : Nat → Int32 → Int32 → Sg → Option (Int32 × Sg)
  | 0, _, _, _ => none
  | n + 1, v2, v3, σ => j_bringUp_62_H25 (j_bringUp_62_L25 n) v2 v3 σ
def j_bringUp_62_H5 (k5 : Int32 → Int32 → Sg → Option (Int32 × Sg)) (v1 : Int32) (v2 : Int32) (σ : Sg) : Option (Int32 × Sg) :=
  if 5 ≤ v2 then some (0, σ) else gd (inB v2 5) (gd (arB 1 (63 + 1 + v2.toNatClampNeg) v1) (if (lg_cmp (σ.2 (63 + 1 + v2.toNatClampNeg) v1.toNatClampNeg) 0) = 0 then k5 v1 (v2 + 1) σ else j_bringUp_62_L25 fu v2 0 σ))
def j_bringUp_62_L5 : Nat → Int32 → Int32 → Sg → Option (Int32 × Sg)
  | 0, _, _, _ => none
  | n + 1, v1, v2, σ => j_bringUp_62_H5 (j_bringUp_62_L5 n) v1 v2 σ
def j_bringUp_62 (v1 : Int32) (σ : Sg) : Option (Int32 × Sg) :=
  j_bringUp_62_L5 fu v1 (σ.1 62 3) σ
def j_clearOthers_62_b115 (k15 : Int32 → Int64 → Int32 → Sg → Option (Unit × Sg)) (v1 : Int32) (v2 : Int64) (v4 : Int32) (σ : Sg) : Option (Unit × Sg) :=
  k15 v1 v2 (v4 + 1) σ
def j_clearOthers_62_H35 (k15 : Int32 → Int64 → Int32 → Sg → Option (Unit × Sg)) (k35 : Int32 → Int64 → Int32 → Int64 → Int32 → Sg → Option (Unit × Sg)) (v1 : Int32) (v2 : Int64) (v4 : Int32) (v5 : Int64) (v7 : Int32) (σ : Sg) : Option (Unit × Sg) :=
  if (σ.1 62 2) ≤ v7 then j_clearOthers_62_b115 k15 v1 v2 v4 σ else if v4 = (σ.1 62 3) then j_clearOthers_62_b115 k15 v1 v2 v4 σ else if (lg_cmp (σ.2 62 5) 0) = 0 then j_clearOthers_62_b115 k15 v1 v2 v4 σ else gd (inB v4 5) (gd (arB 1 (63 + 1 + v4.toNatClampNeg) v7) (gd (inB v4 5) (gd (inB (σ.1 62 3) 5) (gd (arB 1 (63 + 1 + (σ.1 62 3).toNatClampNeg) v7) (gd (neBL (σ.2 62 5)) (gd (arB 1 (63 + 1 + v4.toNatClampNeg) v7) (k35 v1 v2 v4 v5 (v7 + 1) (sl σ (63 + 1 + v4.toNatClampNeg) v7.toNatClampNeg ((((σ.2 (63 + 1 + v4.toNatClampNeg) v7.toNatClampNeg) * v2) - (v5 * (σ.2 (63 + 1 + (σ.1 62 3).toNatClampNeg) v7.toNatClampNeg))) / (σ.2 62 5))))))))))
def j_clearOthers_62_L35 (k15 : Int32 → Int64 → Int32 → Sg → Option (Unit × Sg)) : Nat → Int32 → Int64 → Int32 → Int64 → Int32 → Sg → Option (Unit × Sg)
  | 0, _, _, _, _, _, _ => none
  | n + 1, v1, v2, v4, v5, v7, σ => j_clearOthers_62_H35 k15 (j_clearOthers_62_L35 k15 n) v1 v2 v4 v5 v7 σ
def j_clearOthers_62_H15 (k15 : Int32 → Int64 → Int32 → Sg → Option (Unit × Sg)) (v1 : Int32) (v2 : Int64) (v4 : Int32) (σ : Sg) : Option (Unit × Sg) :=
  if 5 ≤ v4 then some ((), sl σ 62 5 v2) else gd (inB v4 5) (gd (arB 1 (63 + 1 + v4.toNatClampNeg) v1) (j_clearOthers_62_L35 k15 fu v1 v2 v4 (σ.2 (63 + 1 + v4.toNatClampNeg) v1.toNatClampNeg) 0 σ))
def j_clearOthers_62_L15 : Nat → Int32 → Int64 → Int32 → Sg → Option (Unit × Sg)
  | 0, _, _, _, _ => none
  | n + 1, v1, v2, v4, σ => j_clearOthers_62_H15 (j_clearOthers_62_L15 n) v1 v2 v4 σ
def j_clearOthers_62 (v1 : Int32) (σ : Sg) : Option (Unit × Sg) :=
  gd (inB (σ.1 62 3) 5) (gd (arB 1 (63 + 1 + (σ.1 62 3).toNatClampNeg) v1) (j_clearOthers_62_L15 fu v1 (σ.2 (63 + 1 + (σ.1 62 3).toNatClampNeg) v1.toNatClampNeg) 0 σ))
def j_bit_s (v0 : Int32) (v1 : Int32) (σ : Sg) : Option (Int32 × Sg) :=
  some ((v0 >>> (v1 &&& 31)) &&& 1, σ)
def j_run_62_52_b142 (k74 : Int32 → Int32 → Sg → Option (Unit × Sg)) (v3 : Int32) (v4 : Int32) (σ : Sg) : Option (Unit × Sg) :=
  k74 v3 (v4 + 1) σ
def j_run_62_52_H74 (k74 : Int32 → Int32 → Sg → Option (Unit × Sg)) (v3 : Int32) (v4 : Int32) (σ : Sg) : Option (Unit × Sg) :=
  if (σ.1 62 2) ≤ v4 then some ((), σ) else bd (j_bit_s v3 v4 σ) fun r1 σ1 => if r1 = 1 then bd (j_bringUp_62 v4 σ1) fun r2 σ2 => if r2 = 0 then j_run_62_52_b142 k74 v3 v4 σ2 else bd (j_clearOthers_62 v4 σ2) fun _ σ3 => gd (inB v4 8) (j_run_62_52_b142 k74 v3 v4 (si (si (si σ3 69 v4.toNatClampNeg (σ3.1 62 3)) 62 4 (((si σ3 69 v4.toNatClampNeg (σ3.1 62 3)).1 62 4) ||| ((1 : Int32) <<< (v4 &&& 31)))) 62 3 (((si (si σ3 69 v4.toNatClampNeg (σ3.1 62 3)) 62 4 (((si σ3 69 v4.toNatClampNeg (σ3.1 62 3)).1 62 4) ||| ((1 : Int32) <<< (v4 &&& 31)))).1 62 3) + 1))) else j_run_62_52_b142 k74 v3 v4 σ1
def j_run_62_52_L74 : Nat → Int32 → Int32 → Sg → Option (Unit × Sg)
  | 0, _, _, _ => none
  | n + 1, v3, v4, σ => j_run_62_52_H74 (j_run_62_52_L74 n) v3 v4 σ
def j_run_62_52_H32 (k23 : Int32 → Int32 → Sg → Option (Unit × Sg)) (k32 : Int32 → Int32 → Int32 → Sg → Option (Unit × Sg)) (v3 : Int32) (v4 : Int32) (v5 : Int32) (σ : Sg) : Option (Unit × Sg) :=
  if (σ.1 62 2) ≤ v5 then k23 v3 (v4 + 1) σ else gd (inB v4 5) (gd (inB v5 8) (gd (arB 0 (52 + 1 + v5.toNatClampNeg) v4) (gd (arB 1 (63 + 1 + v4.toNatClampNeg) v5) (k32 v3 v4 (v5 + 1) (sl σ (63 + 1 + v4.toNatClampNeg) v5.toNatClampNeg ((σ.1 (52 + 1 + v5.toNatClampNeg) v4.toNatClampNeg).toInt64))))))
def j_run_62_52_L32 (k23 : Int32 → Int32 → Sg → Option (Unit × Sg)) : Nat → Int32 → Int32 → Int32 → Sg → Option (Unit × Sg)
  | 0, _, _, _, _ => none
  | n + 1, v3, v4, v5, σ => j_run_62_52_H32 k23 (j_run_62_52_L32 k23 n) v3 v4 v5 σ
def j_run_62_52_H23 (k23 : Int32 → Int32 → Sg → Option (Unit × Sg)) (v3 : Int32) (v4 : Int32) (σ : Sg) : Option (Unit × Sg) :=
  if 5 ≤ v4 then j_run_62_52_L74 fu v3 0 σ else j_run_62_52_L32 k23 fu v3 v4 0 σ
def j_run_62_52_L23 : Nat → Int32 → Int32 → Sg → Option (Unit × Sg)
  | 0, _, _, _ => none
  | n + 1, v3, v4, σ => j_run_62_52_H23 (j_run_62_52_L23 n) v3 v4 σ
def j_run_62_52 (v2 : Int32) (v3 : Int32) (σ : Sg) : Option (Unit × Sg) :=
  j_run_62_52_L23 fu v3 0 (sl (si (si (si σ 62 2 v2) 62 3 0) 62 4 0) 62 5 1)
def j_keyOf_x_H11 (k11 : Int64 → Nat → Int32 → Int32 → Sg → Option (Int64 × Sg)) (v1 : Int64) (v3 : Nat) (v4 : Int32) (v5 : Int32) (σ : Sg) : Option (Int64 × Sg) :=
  if v4 ≤ v5 then some (v1, σ) else gd (arB 0 v3 v5) (k11 ((v1 * 4096) + ((σ.1 v3 v5.toNatClampNeg).toInt64)) v3 v4 (v5 + 1) σ)
def j_keyOf_x_L11 : Nat → Int64 → Nat → Int32 → Int32 → Sg → Option (Int64 × Sg)
  | 0, _, _, _, _, _ => none
  | n + 1, v1, v3, v4, v5, σ => j_keyOf_x_H11 (j_keyOf_x_L11 n) v1 v3 v4 v5 σ
def j_keyOf_x (v0 : Nat) (σ : Sg) : Option (Int64 × Sg) :=
  gd (ckB v0) (j_keyOf_x_L11 fu 0 v0 (Int32.ofNat (al v0)) 0 σ)
def j_setPowers_x_x_H32 (k32 : Int32 → Nat → Int32 → Sg → Option (Unit × Sg)) (v0 : Int32) (v2 : Nat) (v3 : Int32) (σ : Sg) : Option (Unit × Sg) :=
  if 5 ≤ v3 then some ((), σ) else gd (arB 0 v2 v3) (gd (inB v0 6) (gd (arB 0 v2 v3) (k32 v0 v2 (v3 + 1) (si σ v2 v3.toNatClampNeg ((σ.1 v2 v3.toNatClampNeg) * (sv 1003 v0.toNatClampNeg))))))
def j_setPowers_x_x_L32 : Nat → Int32 → Nat → Int32 → Sg → Option (Unit × Sg)
  | 0, _, _, _, _ => none
  | n + 1, v0, v2, v3, σ => j_setPowers_x_x_H32 (j_setPowers_x_x_L32 n) v0 v2 v3 σ
def j_setPowers_x_x (v0 : Int32) (v1 : Nat) (v2 : Nat) (σ : Sg) : Option (Unit × Sg) :=
  gd (cpB v1 v2 0 0 5) (gd (arB 0 v2 1) (gd (inB v0 6) (gd (arB 0 v2 1) (gd (arB 0 v2 2) (gd (inB v0 6) (gd (arB 0 v2 2) (j_setPowers_x_x_L32 fu v0 v2 0 (si (si (scp σ v1 v2 0 0 5) v2 1 (((scp σ v1 v2 0 0 5).1 v2 1) - (sv 1001 v0.toNatClampNeg))) v2 2 (((si (scp σ v1 v2 0 0 5) v2 1 (((scp σ v1 v2 0 0 5).1 v2 1) - (sv 1001 v0.toNatClampNeg))).1 v2 2) - (sv 1002 v0.toNatClampNeg))))))))))
def j_measure_51_1_H20 (k20 : Int32 → Sg → Option (Unit × Sg)) (v2 : Int32) (σ : Sg) : Option (Unit × Sg) :=
  if (σ.1 51 0) ≤ v2 then bd (j_run_62_52 (σ.1 51 0) (((1 : Int32) <<< ((σ.1 51 0) &&& 31)) - 1) σ) fun _ σ1 => some ((), σ1) else gd (inB v2 8) (gd (inB v2 8) (gd (inB v2 8) (bd (j_setPowers_x_x (σ.1 2 v2.toNatClampNeg) (3 + 1 + v2.toNatClampNeg) (52 + 1 + v2.toNatClampNeg) σ) fun _ σ5 => gd (inB v2 8) (bd (j_keyOf_x (52 + 1 + v2.toNatClampNeg) σ5) fun r7 σ7 => gd (inB v2 8) (k20 (v2 + 1) (sl σ7 61 v2.toNatClampNeg r7))))))
def j_measure_51_1_L20 : Nat → Int32 → Sg → Option (Unit × Sg)
  | 0, _, _ => none
  | n + 1, v2, σ => j_measure_51_1_H20 (j_measure_51_1_L20 n) v2 σ
def j_measure_51_1 (σ : Sg) : Option (Unit × Sg) :=
  j_measure_51_1_L20 fu 0 (si (si σ 51 0 (σ.1 1 0)) 51 1 (((si σ 51 0 (σ.1 1 0)).1 51 1) + 1))
def j_isKind_s_b15 (s0 : Int32) (σ : Sg) : Option (Int32 × Sg) :=
  gd (nbB s0) (some (s0, σ))
def j_isKind_s_b14 (σ : Sg) : Option (Int32 × Sg) :=
  j_isKind_s_b15 0 σ
def j_isKind_s (v0 : Int32) (σ : Sg) : Option (Int32 × Sg) :=
  if v0 < 0 then j_isKind_s_b14 σ else if 6 ≤ v0 then j_isKind_s_b14 σ else j_isKind_s_b15 1 σ
def j_quantity_0 (v1 : Int32) (σ : Sg) : Option (Int32 × Sg) :=
  bd (j_isKind_s v1 σ) fun r1 σ1 => if r1 = 0 then bd (j_refused_0 (-2) σ1) fun r7 σ7 => some (r7, σ7) else if (σ1.1 1 0) < 8 then bd (j_add_1 v1 σ1) fun _ σ2 => bd (j_forget_29 σ2) fun _ σ3 => bd (j_measure_51_1 σ3) fun _ σ4 => some ((σ4.1 1 0) - 1, σ4) else bd (j_refused_0 (-6) σ1) fun r5 σ5 => some (r5, σ5)
def j_note_29 (v1 : Int32) (v2 : Int32) (v3 : Int32) (v4 : Int32) (σ : Sg) : Option (Unit × Sg) :=
  gd (inB (σ.1 29 1) 20) (gd (arB 0 (30 + 1 + (σ.1 29 1).toNatClampNeg) 0) (gd (arB 0 (30 + 1 + (σ.1 29 1).toNatClampNeg) 1) (gd (arB 0 (30 + 1 + (σ.1 29 1).toNatClampNeg) 2) (gd (arB 0 (30 + 1 + (σ.1 29 1).toNatClampNeg) 3) (some ((), si (si (si (si (si (si σ (30 + 1 + (σ.1 29 1).toNatClampNeg) 0 v1) (30 + 1 + (σ.1 29 1).toNatClampNeg) 1 v2) (30 + 1 + (σ.1 29 1).toNatClampNeg) 2 v3) (30 + 1 + (σ.1 29 1).toNatClampNeg) 3 v4) 29 1 (irm (((si (si (si (si σ (30 + 1 + (σ.1 29 1).toNatClampNeg) 0 v1) (30 + 1 + (σ.1 29 1).toNatClampNeg) 1 v2) (30 + 1 + (σ.1 29 1).toNatClampNeg) 2 v3) (30 + 1 + (σ.1 29 1).toNatClampNeg) 3 v4).1 29 1) + 1) 20)) 29 2 (imin (((si (si (si (si (si σ (30 + 1 + (σ.1 29 1).toNatClampNeg) 0 v1) (30 + 1 + (σ.1 29 1).toNatClampNeg) 1 v2) (30 + 1 + (σ.1 29 1).toNatClampNeg) 2 v3) (30 + 1 + (σ.1 29 1).toNatClampNeg) 3 v4) 29 1 (irm (((si (si (si (si σ (30 + 1 + (σ.1 29 1).toNatClampNeg) 0 v1) (30 + 1 + (σ.1 29 1).toNatClampNeg) 1 v2) (30 + 1 + (σ.1 29 1).toNatClampNeg) 2 v3) (30 + 1 + (σ.1 29 1).toNatClampNeg) 3 v4).1 29 1) + 1) 20)).1 29 2) + 1) 20)))))))
def j_isQuantity_0_b20 (s0 : Int32) (σ : Sg) : Option (Int32 × Sg) :=
  gd (nbB s0) (some (s0, σ))
def j_isQuantity_0_b19 (σ : Sg) : Option (Int32 × Sg) :=
  j_isQuantity_0_b20 0 σ
def j_isQuantity_0 (v1 : Int32) (σ : Sg) : Option (Int32 × Sg) :=
  if v1 < 0 then j_isQuantity_0_b19 σ else if (σ.1 1 0) ≤ v1 then j_isQuantity_0_b19 σ else j_isQuantity_0_b20 1 σ
def j_isUnit_s_b14 (s0 : Int32) (σ : Sg) : Option (Int32 × Sg) :=
  gd (nbB s0) (some (s0, σ))
def j_isUnit_s_b13 (σ : Sg) : Option (Int32 × Sg) :=
  j_isUnit_s_b14 0 σ
def j_isUnit_s (v0 : Int32) (σ : Sg) : Option (Int32 × Sg) :=
  if v0 < 0 then j_isUnit_s_b13 σ else if 5 ≤ v0 then j_isUnit_s_b13 σ else j_isUnit_s_b14 1 σ
def j_refusedFar_0 (v1 : Int32) (σ : Sg) : Option (Int32 × Sg) :=
  bd (j_refused_0 v1 σ) fun r1 σ1 => some (1000000000 - r1, σ1)
def j_tell_0_b15 (σ : Sg) : Option (Int32 × Sg) :=
  bd (j_refusedFar_0 (-1) σ) fun r1 σ1 => some (r1, σ1)
def j_tell_0 (v1 : Int32) (v2 : Int32) (v3 : Int32) (σ : Sg) : Option (Int32 × Sg) :=
  bd (j_isQuantity_0 v1 σ) fun r1 σ1 => if r1 = 0 then j_tell_0_b15 σ1 else bd (j_isUnit_s v2 σ1) fun r2 σ2 => if r2 = 0 then j_tell_0_b15 σ2 else if (-9) ≤ v3 then if v3 ≤ 9 then gd (inB v1 8) (gd (arB 0 (3 + 1 + v1.toNatClampNeg) v2) (bd (j_note_29 0 v1 v2 (σ2.1 (3 + 1 + v1.toNatClampNeg) v2.toNatClampNeg) σ2) fun _ σ5 => gd (inB v1 8) (gd (arB 0 (3 + 1 + v1.toNatClampNeg) v2) (bd (j_measure_51_1 (si σ5 (3 + 1 + v1.toNatClampNeg) v2.toNatClampNeg v3)) fun _ σ8 => some (σ2.1 (3 + 1 + v1.toNatClampNeg) v2.toNatClampNeg, σ8))))) else bd (j_refusedFar_0 (-6) σ2) fun r9 σ9 => some (r9, σ9) else bd (j_refusedFar_0 (-4) σ2) fun r11 σ11 => some (r11, σ11)
def j_turn_0 (v1 : Int32) (v2 : Int32) (σ : Sg) : Option (Int32 × Sg) :=
  bd (j_isQuantity_0 v1 σ) fun r1 σ1 => if r1 = 0 then bd (j_refused_0 (-1) σ1) fun r9 σ9 => some (r9, σ9) else bd (j_isKind_s v2 σ1) fun r2 σ2 => if r2 = 0 then bd (j_refused_0 (-2) σ2) fun r7 σ7 => some (r7, σ7) else gd (inB v1 8) (bd (j_note_29 1 v1 (σ2.1 2 v1.toNatClampNeg) 0 σ2) fun _ σ4 => gd (inB v1 8) (bd (j_measure_51_1 (si σ4 2 v1.toNatClampNeg v2)) fun _ σ6 => some (σ2.1 2 v1.toNatClampNeg, σ6)))
def j_looseSet_51 (σ : Sg) : Option (Int32 × Sg) :=
  some ((((1 : Int32) <<< ((σ.1 51 0) &&& 31)) - 1) &&& ((σ.1 62 4) ^^^ (-1)), σ)
def j_isPure_x_H7 (k7 : Nat → Int32 → Int32 → Sg → Option (Int32 × Sg)) (v1 : Nat) (v2 : Int32) (v3 : Int32) (σ : Sg) : Option (Int32 × Sg) :=
  if v2 ≤ v3 then some (1, σ) else gd (arB 0 v1 v3) (if (σ.1 v1 v3.toNatClampNeg) = 0 then k7 v1 v2 (v3 + 1) σ else some (0, σ))
def j_isPure_x_L7 : Nat → Nat → Int32 → Int32 → Sg → Option (Int32 × Sg)
  | 0, _, _, _, _ => none
  | n + 1, v1, v2, v3, σ => j_isPure_x_H7 (j_isPure_x_L7 n) v1 v2 v3 σ
def j_isPure_x (v0 : Nat) (σ : Sg) : Option (Int32 × Sg) :=
  gd (ckB v0) (j_isPure_x_L7 fu v0 (Int32.ofNat (al v0)) 0 σ)
def j_of_0_b133 (σ : Sg) : Option (Int32 × Sg) :=
  bd (j_refusedFar_0 (-2) σ) fun r1 σ1 => some (r1, σ1)
def j_of_0_b102 (v1 : Int32) (v2 : Int32) (σ : Sg) : Option (Int32 × Sg) :=
  if v2 < 20 then j_of_0_b133 σ else bd (j_isUnit_s (v2 - 20) σ) fun r1 σ1 => if r1 = 0 then j_of_0_b133 σ1 else gd (inB v1 8) (gd (arB 0 (52 + 1 + v1.toNatClampNeg) (v2 - 20)) (some (σ1.1 (52 + 1 + v1.toNatClampNeg) (v2 - 20).toNatClampNeg, σ1)))
def j_of_0_b70 (s0 : Int32) (σ : Sg) : Option (Int32 × Sg) :=
  some (s0, σ)
def j_of_0 (v1 : Int32) (v2 : Int32) (σ : Sg) : Option (Int32 × Sg) :=
  bd (j_isQuantity_0 v1 σ) fun r1 σ1 => if r1 = 0 then bd (j_refusedFar_0 (-1) σ1) fun r16 σ16 => some (r16, σ16) else if v2 = 0 then gd (inB v1 8) (some (σ1.1 2 v1.toNatClampNeg, σ1)) else if v2 = 1 then bd (j_looseSet_51 σ1) fun r11 σ11 => bd (j_bit_s r11 v1 σ11) fun r12 σ12 => some (r12, σ12) else if v2 = 2 then gd (inB v1 8) (bd (j_isPure_x (52 + 1 + v1.toNatClampNeg) σ1) fun r8 σ8 => if r8 = 0 then j_of_0_b70 0 σ8 else j_of_0_b70 1 σ8) else if v2 < 10 then j_of_0_b102 v1 v2 σ1 else bd (j_isUnit_s (v2 - 10) σ1) fun r2 σ2 => if r2 = 0 then j_of_0_b102 v1 v2 σ2 else gd (inB v1 8) (gd (arB 0 (3 + 1 + v1.toNatClampNeg) (v2 - 10)) (some (σ2.1 (3 + 1 + v1.toNatClampNeg) (v2 - 10).toNatClampNeg, σ2)))
def j_twin_0_b56 (k16 : Int32 → Int32 → Sg → Option (Int32 × Sg)) (v1 : Int32) (v2 : Int32) (σ : Sg) : Option (Int32 × Sg) :=
  k16 v1 (v2 + 1) σ
def j_twin_0_H16 (k16 : Int32 → Int32 → Sg → Option (Int32 × Sg)) (v1 : Int32) (v2 : Int32) (σ : Sg) : Option (Int32 × Sg) :=
  if (σ.1 51 0) ≤ v2 then some ((-9), σ) else if v2 = v1 then j_twin_0_b56 k16 v1 v2 σ else gd (inB v2 8) (gd (inB v1 8) (if (lg_cmp (σ.2 61 v2.toNatClampNeg) (σ.2 61 v1.toNatClampNeg)) = 0 then some (v2, σ) else j_twin_0_b56 k16 v1 v2 σ))
def j_twin_0_L16 : Nat → Int32 → Int32 → Sg → Option (Int32 × Sg)
  | 0, _, _, _ => none
  | n + 1, v1, v2, σ => j_twin_0_H16 (j_twin_0_L16 n) v1 v2 σ
def j_twin_0 (v1 : Int32) (σ : Sg) : Option (Int32 × Sg) :=
  bd (j_isQuantity_0 v1 σ) fun r1 σ1 => if r1 = 0 then bd (j_refused_0 (-1) σ1) fun r2 σ2 => some (r2, σ2) else j_twin_0_L16 fu v1 0 σ1
def j_taken_0_b82 (σ : Sg) : Option (Int32 × Sg) :=
  some ((-16), σ)
def j_taken_0_H41 (k41 : Int32 → Int32 → Int32 → Int32 → Sg → Option (Int32 × Sg)) (v1 : Int32) (v2 : Int32) (v3 : Int32) (v4 : Int32) (σ : Sg) : Option (Int32 × Sg) :=
  if 6 ≤ v4 then j_taken_0_b82 σ else bd (j_isKind_s v3 σ) fun r1 σ1 => if r1 = 0 then j_taken_0_b82 σ1 else if v3 = v2 then gd (inB v1 8) (some (σ1.1 2 v1.toNatClampNeg, σ1)) else gd (inB v3 6) (k41 v1 v2 (sv 1000 v3.toNatClampNeg) (v4 + 1) σ1)
def j_taken_0_L41 : Nat → Int32 → Int32 → Int32 → Int32 → Sg → Option (Int32 × Sg)
  | 0, _, _, _, _, _ => none
  | n + 1, v1, v2, v3, v4, σ => j_taken_0_H41 (j_taken_0_L41 n) v1 v2 v3 v4 σ
def j_taken_0 (v1 : Int32) (v2 : Int32) (σ : Sg) : Option (Int32 × Sg) :=
  bd (j_isQuantity_0 v1 σ) fun r1 σ1 => if r1 = 0 then bd (j_refused_0 (-1) σ1) fun r6 σ6 => some (r6, σ6) else bd (j_isKind_s v2 σ1) fun r2 σ2 => if r2 = 0 then bd (j_refused_0 (-2) σ2) fun r4 σ4 => some (r4, σ4) else gd (inB v1 8) (j_taken_0_L41 fu v1 v2 (σ2.1 2 v1.toNatClampNeg) 0 σ2)
def j_differentDimensions_51_b64 (k4 : Int32 → Int32 → Sg → Option (Int32 × Sg)) (v2 : Int32) (s0 : Int32) (s1 : Int32) (σ : Sg) : Option (Int32 × Sg) :=
  k4 (s0 + s1) (v2 + 1) σ
def j_differentDimensions_51_b46 (k4 : Int32 → Int32 → Sg → Option (Int32 × Sg)) (k17 : Int32 → Int32 → Int32 → Int32 → Sg → Option (Int32 × Sg)) (v1 : Int32) (v2 : Int32) (v4 : Int32) (s0 : Int32) (s1 : Int32) (σ : Sg) : Option (Int32 × Sg) :=
  k17 v1 v2 (s0 + s1) (v4 + 1) σ
def j_differentDimensions_51_H17 (k4 : Int32 → Int32 → Sg → Option (Int32 × Sg)) (k17 : Int32 → Int32 → Int32 → Int32 → Sg → Option (Int32 × Sg)) (v1 : Int32) (v2 : Int32) (v3 : Int32) (v4 : Int32) (σ : Sg) : Option (Int32 × Sg) :=
  if v2 ≤ v4 then if v3 = 0 then j_differentDimensions_51_b64 k4 v2 v1 1 σ else j_differentDimensions_51_b64 k4 v2 v1 0 σ else gd (inB v4 8) (gd (inB v2 8) (if (lg_cmp (σ.2 61 v4.toNatClampNeg) (σ.2 61 v2.toNatClampNeg)) = 0 then j_differentDimensions_51_b46 k4 k17 v1 v2 v4 v3 1 σ else j_differentDimensions_51_b46 k4 k17 v1 v2 v4 v3 0 σ))
def j_differentDimensions_51_L17 (k4 : Int32 → Int32 → Sg → Option (Int32 × Sg)) : Nat → Int32 → Int32 → Int32 → Int32 → Sg → Option (Int32 × Sg)
  | 0, _, _, _, _, _ => none
  | n + 1, v1, v2, v3, v4, σ => j_differentDimensions_51_H17 k4 (j_differentDimensions_51_L17 k4 n) v1 v2 v3 v4 σ
def j_differentDimensions_51_H4 (k4 : Int32 → Int32 → Sg → Option (Int32 × Sg)) (v1 : Int32) (v2 : Int32) (σ : Sg) : Option (Int32 × Sg) :=
  if (σ.1 51 0) ≤ v2 then some (v1, σ) else j_differentDimensions_51_L17 k4 fu v1 v2 0 0 σ
def j_differentDimensions_51_L4 : Nat → Int32 → Int32 → Sg → Option (Int32 × Sg)
  | 0, _, _, _ => none
  | n + 1, v1, v2, σ => j_differentDimensions_51_H4 (j_differentDimensions_51_L4 n) v1 v2 σ
def j_differentDimensions_51 (σ : Sg) : Option (Int32 × Sg) :=
  j_differentDimensions_51_L4 fu 0 0 σ
def j_rank_0_b73 (s0 : Int32) (σ : Sg) : Option (Int32 × Sg) :=
  some (s0, σ)
def j_rank_0 (v1 : Int32) (σ : Sg) : Option (Int32 × Sg) :=
  if v1 = 0 then some (σ.1 62 3, σ) else if v1 = 1 then some ((σ.1 51 0) - (σ.1 62 3), σ) else if v1 = 2 then bd (j_looseSet_51 σ) fun r4 σ4 => some (r4, σ4) else if v1 = 3 then bd (j_differentDimensions_51 σ) fun r2 σ2 => j_rank_0_b73 r2 σ2 else bd (j_refused_0 (-2) σ) fun r1 σ1 => j_rank_0_b73 r1 σ1
def j_fillAII_113_H5 (k5 : Int32 → Int32 → Int32 → Sg → Option (Unit × Sg)) (v1 : Int32) (v2 : Int32) (v3 : Int32) (σ : Sg) : Option (Unit × Sg) :=
  if v3 ≤ v2 then some ((), σ) else gd (inB v2 8) (k5 v1 (v2 + 1) v3 (si σ 113 v2.toNatClampNeg v1))
def j_fillAII_113_L5 : Nat → Int32 → Int32 → Int32 → Sg → Option (Unit × Sg)
  | 0, _, _, _, _ => none
  | n + 1, v1, v2, v3, σ => j_fillAII_113_H5 (j_fillAII_113_L5 n) v1 v2 v3 σ
def j_fillAII_113 (v1 : Int32) (σ : Sg) : Option (Unit × Sg) :=
  j_fillAII_113_L5 fu v1 0 8 σ
def j_greatestDivisor_s_b51 (v4 : Int64) (σ : Sg) : Option (Int64 × Sg) :=
  some (v4, σ)
def j_greatestDivisor_s_H15 (k15 : Int64 → Int64 → Int32 → Sg → Option (Int64 × Sg)) (v4 : Int64) (v6 : Int64) (v8 : Int32) (σ : Sg) : Option (Int64 × Sg) :=
  if 200 ≤ v8 then j_greatestDivisor_s_b51 v4 σ else if (lg_cmp v6 0) = 0 then j_greatestDivisor_s_b51 v4 σ else gd (neBL v6) (k15 v6 (lrm v4 v6) (v8 + 1) σ)
def j_greatestDivisor_s_L15 : Nat → Int64 → Int64 → Int32 → Sg → Option (Int64 × Sg)
  | 0, _, _, _, _ => none
  | n + 1, v4, v6, v8, σ => j_greatestDivisor_s_H15 (j_greatestDivisor_s_L15 n) v4 v6 v8 σ
def j_greatestDivisor_s (v0 : Int64) (v2 : Int64) (σ : Sg) : Option (Int64 × Sg) :=
  j_greatestDivisor_s_L15 fu (labs v0) (labs v2) 0 σ
def j_relation_62_113_b146 (k102 : Int32 → Int64 → Int32 → Sg → Option (Unit × Sg)) (v1 : Int32) (v3 : Int64) (v5 : Int32) (σ : Sg) : Option (Unit × Sg) :=
  k102 v1 v3 (v5 + 1) σ
def j_relation_62_113_H102 (k102 : Int32 → Int64 → Int32 → Sg → Option (Unit × Sg)) (v1 : Int32) (v3 : Int64) (v5 : Int32) (σ : Sg) : Option (Unit × Sg) :=
  if (σ.1 62 2) ≤ v5 then some ((), σ) else bd (j_bit_s (σ.1 62 4) v5 σ) fun r1 σ1 => if r1 = 1 then gd (inB v5 8) (gd (inB (σ1.1 69 v5.toNatClampNeg) 5) (gd (arB 1 (63 + 1 + (σ1.1 69 v5.toNatClampNeg).toNatClampNeg) v1) (gd (neBL v3) (gd (inB v5 8) (j_relation_62_113_b146 k102 v1 v3 v5 (si σ1 113 v5.toNatClampNeg (((-(σ1.2 (63 + 1 + (σ1.1 69 v5.toNatClampNeg).toNatClampNeg) v1.toNatClampNeg)) / v3).toInt32))))))) else j_relation_62_113_b146 k102 v1 v3 v5 σ1
def j_relation_62_113_L102 : Nat → Int32 → Int64 → Int32 → Sg → Option (Unit × Sg)
  | 0, _, _, _, _ => none
  | n + 1, v1, v3, v5, σ => j_relation_62_113_H102 (j_relation_62_113_L102 n) v1 v3 v5 σ
def j_relation_62_113_b88 (v1 : Int32) (s0 : Int64) (σ : Sg) : Option (Unit × Sg) :=
  gd (neBL s0) (gd (inB v1 8) (j_relation_62_113_L102 fu v1 s0 0 (si σ 113 v1.toNatClampNeg (((σ.2 62 5) / s0).toInt32))))
def j_relation_62_113_b54 (k13 : Int32 → Int64 → Int32 → Sg → Option (Unit × Sg)) (v1 : Int32) (v3 : Int64) (v5 : Int32) (σ : Sg) : Option (Unit × Sg) :=
  k13 v1 v3 (v5 + 1) σ
def j_relation_62_113_H13 (k13 : Int32 → Int64 → Int32 → Sg → Option (Unit × Sg)) (v1 : Int32) (v3 : Int64) (v5 : Int32) (σ : Sg) : Option (Unit × Sg) :=
  if (σ.1 62 2) ≤ v5 then if (lg_cmp v3 0) = 0 then some ((), σ) else if 0 ≤ (lg_cmp (σ.2 62 5) 0) then j_relation_62_113_b88 v1 (labs v3) σ else j_relation_62_113_b88 v1 (-(labs v3)) σ else bd (j_bit_s (σ.1 62 4) v5 σ) fun r3 σ3 => if r3 = 1 then gd (inB v5 8) (gd (inB (σ3.1 69 v5.toNatClampNeg) 5) (gd (arB 1 (63 + 1 + (σ3.1 69 v5.toNatClampNeg).toNatClampNeg) v1) (bd (j_greatestDivisor_s v3 (σ3.2 (63 + 1 + (σ3.1 69 v5.toNatClampNeg).toNatClampNeg) v1.toNatClampNeg) σ3) fun r7 σ7 => j_relation_62_113_b54 k13 v1 r7 v5 σ7))) else j_relation_62_113_b54 k13 v1 v3 v5 σ3
def j_relation_62_113_L13 : Nat → Int32 → Int64 → Int32 → Sg → Option (Unit × Sg)
  | 0, _, _, _, _ => none
  | n + 1, v1, v3, v5, σ => j_relation_62_113_H13 (j_relation_62_113_L13 n) v1 v3 v5 σ
def j_relation_62_113 (v1 : Int32) (σ : Sg) : Option (Unit × Sg) :=
  bd (j_fillAII_113 0 σ) fun _ σ1 => j_relation_62_113_L13 fu v1 (σ1.2 62 5) 0 σ1
def j_looseAt_51_b39 (k10 : Int32 → Int32 → Int32 → Sg → Option (Int32 × Sg)) (v2 : Int32) (v3 : Int32) (v4 : Int32) (σ : Sg) : Option (Int32 × Sg) :=
  k10 v2 v3 (v4 + 1) σ
def j_looseAt_51_H10 (k10 : Int32 → Int32 → Int32 → Sg → Option (Int32 × Sg)) (v2 : Int32) (v3 : Int32) (v4 : Int32) (σ : Sg) : Option (Int32 × Sg) :=
  if (σ.1 51 0) ≤ v4 then some (0, σ) else bd (j_bit_s v2 v4 σ) fun r1 σ1 => if r1 = 1 then if v3 = 0 then some (v4, σ1) else j_looseAt_51_b39 k10 v2 (v3 + (-1)) v4 σ1 else j_looseAt_51_b39 k10 v2 v3 v4 σ1
def j_looseAt_51_L10 : Nat → Int32 → Int32 → Int32 → Sg → Option (Int32 × Sg)
  | 0, _, _, _, _ => none
  | n + 1, v2, v3, v4, σ => j_looseAt_51_H10 (j_looseAt_51_L10 n) v2 v3 v4 σ
def j_looseAt_51 (v1 : Int32) (σ : Sg) : Option (Int32 × Sg) :=
  bd (j_looseSet_51 σ) fun r1 σ1 => j_looseAt_51_L10 fu r1 v1 0 σ1
def j_isGroup_0_b31 (s0 : Int32) (σ : Sg) : Option (Int32 × Sg) :=
  gd (nbB s0) (some (s0, σ))
def j_isGroup_0_b30 (σ : Sg) : Option (Int32 × Sg) :=
  j_isGroup_0_b31 0 σ
def j_isGroup_0 (v1 : Int32) (σ : Sg) : Option (Int32 × Sg) :=
  if v1 < 0 then j_isGroup_0_b30 σ else if ((σ.1 51 0) - (σ.1 62 3)) ≤ v1 then j_isGroup_0_b30 σ else j_isGroup_0_b31 1 σ
def j_group_0_b16 (σ : Sg) : Option (Int32 × Sg) :=
  bd (j_refusedFar_0 (-1) σ) fun r1 σ1 => some (r1, σ1)
def j_group_0 (v1 : Int32) (v2 : Int32) (σ : Sg) : Option (Int32 × Sg) :=
  bd (j_isGroup_0 v1 σ) fun r1 σ1 => if r1 = 0 then j_group_0_b16 σ1 else bd (j_isQuantity_0 v2 σ1) fun r2 σ2 => if r2 = 0 then j_group_0_b16 σ2 else bd (j_looseAt_51 v1 σ2) fun r3 σ3 => bd (j_relation_62_113 r3 σ3) fun _ σ4 => gd (inB v2 8) (some (σ4.1 113 v2.toNatClampNeg, σ4))
def j_sizeOfDimension_51_114_H15 (k4 : Int32 → Int32 → Sg → Option (Int32 × Sg)) (k15 : Int32 → Int32 → Int32 → Int32 → Sg → Option (Int32 × Sg)) (v2 : Int32) (v3 : Int32) (v4 : Int32) (v5 : Int32) (σ : Sg) : Option (Int32 × Sg) :=
  if (σ.1 51 0) ≤ v5 then k4 (v2 + (iabs v4)) (v3 + 1) σ else gd (inB v5 8) (gd (inB v5 8) (gd (arB 0 (52 + 1 + v5.toNatClampNeg) v3) (k15 v2 v3 (v4 + ((σ.1 114 v5.toNatClampNeg) * (σ.1 (52 + 1 + v5.toNatClampNeg) v3.toNatClampNeg))) (v5 + 1) σ)))
def j_sizeOfDimension_51_114_L15 (k4 : Int32 → Int32 → Sg → Option (Int32 × Sg)) : Nat → Int32 → Int32 → Int32 → Int32 → Sg → Option (Int32 × Sg)
  | 0, _, _, _, _, _ => none
  | n + 1, v2, v3, v4, v5, σ => j_sizeOfDimension_51_114_H15 k4 (j_sizeOfDimension_51_114_L15 k4 n) v2 v3 v4 v5 σ
def j_sizeOfDimension_51_114_H4 (k4 : Int32 → Int32 → Sg → Option (Int32 × Sg)) (v2 : Int32) (v3 : Int32) (σ : Sg) : Option (Int32 × Sg) :=
  if 5 ≤ v3 then some (v2, σ) else j_sizeOfDimension_51_114_L15 k4 fu v2 v3 0 0 σ
def j_sizeOfDimension_51_114_L4 : Nat → Int32 → Int32 → Sg → Option (Int32 × Sg)
  | 0, _, _, _ => none
  | n + 1, v2, v3, σ => j_sizeOfDimension_51_114_H4 (j_sizeOfDimension_51_114_L4 n) v2 v3 σ
def j_sizeOfDimension_51_114 (σ : Sg) : Option (Int32 × Sg) :=
  j_sizeOfDimension_51_114_L4 fu 0 0 σ
def j_isPureProduct_51_114_b13 (s0 : Int32) (σ : Sg) : Option (Int32 × Sg) :=
  gd (nbB s0) (some (s0, σ))
def j_isPureProduct_51_114 (σ : Sg) : Option (Int32 × Sg) :=
  bd (j_sizeOfDimension_51_114 σ) fun r1 σ1 => if r1 = 0 then j_isPureProduct_51_114_b13 1 σ1 else j_isPureProduct_51_114_b13 0 σ1
def j_isList_s_b14 (s0 : Int32) (σ : Sg) : Option (Int32 × Sg) :=
  gd (nbB s0) (some (s0, σ))
def j_isList_s_b13 (σ : Sg) : Option (Int32 × Sg) :=
  j_isList_s_b14 0 σ
def j_isList_s (v0 : Int32) (σ : Sg) : Option (Int32 × Sg) :=
  if v0 < 0 then j_isList_s_b13 σ else if 3 ≤ v0 then j_isList_s_b13 σ else j_isList_s_b14 1 σ
def j_isMissing_0_b14 (s0 : Int32) (σ : Sg) : Option (Int32 × Sg) :=
  gd (nbB s0) (some (s0, σ))
def j_isMissing_0 (v1 : Int32) (σ : Sg) : Option (Int32 × Sg) :=
  gd (inB v1 3) (if 0 ≤ (σ.1 112 v1.toNatClampNeg) then j_isMissing_0_b14 0 σ else j_isMissing_0_b14 1 σ)
def j_isPlace_0_b19 (s0 : Int32) (σ : Sg) : Option (Int32 × Sg) :=
  gd (nbB s0) (some (s0, σ))
def j_isPlace_0_b18 (σ : Sg) : Option (Int32 × Sg) :=
  j_isPlace_0_b19 0 σ
def j_isPlace_0 (v1 : Int32) (v2 : Int32) (σ : Sg) : Option (Int32 × Sg) :=
  if v2 < 0 then j_isPlace_0_b18 σ else gd (inB v1 3) (if (σ.1 112 v1.toNatClampNeg) ≤ v2 then j_isPlace_0_b18 σ else j_isPlace_0_b19 1 σ)
def j_takeNumbers_0_114_b54 (σ : Sg) : Option (Int32 × Sg) :=
  some (0, σ)
def j_takeNumbers_0_114_b35 (k3 : Int32 → Int32 → Int32 → Sg → Option (Int32 × Sg)) (v1 : Int32) (v2 : Int32) (v4 : Int32) (s1 : Int32) (s2 : Int32) (σ : Sg) : Option (Int32 × Sg) :=
  gd (inB s1 8) (gd (inB v4 8) (if ((si σ 114 s1.toNatClampNeg s2).1 114 v4.toNatClampNeg) < (-99) then j_takeNumbers_0_114_b54 (si σ 114 s1.toNatClampNeg s2) else gd (inB v4 8) (if ((si σ 114 s1.toNatClampNeg s2).1 114 v4.toNatClampNeg) ≤ 99 then k3 v1 v2 (v4 + 1) (si σ 114 s1.toNatClampNeg s2) else j_takeNumbers_0_114_b54 (si σ 114 s1.toNatClampNeg s2))))
def j_takeNumbers_0_114_H3 (k3 : Int32 → Int32 → Int32 → Sg → Option (Int32 × Sg)) (v1 : Int32) (v2 : Int32) (v4 : Int32) (σ : Sg) : Option (Int32 × Sg) :=
  if v2 ≤ v4 then some (1, σ) else bd (j_isPlace_0 v1 v4 σ) fun r1 σ1 => if r1 = 0 then j_takeNumbers_0_114_b35 k3 v1 v2 v4 v4 0 σ1 else gd (inB v1 3) (gd (arB 0 (108 + 1 + v1.toNatClampNeg) v4) (j_takeNumbers_0_114_b35 k3 v1 v2 v4 v4 (σ1.1 (108 + 1 + v1.toNatClampNeg) v4.toNatClampNeg) σ1))
def j_takeNumbers_0_114_L3 : Nat → Int32 → Int32 → Int32 → Sg → Option (Int32 × Sg)
  | 0, _, _, _, _ => none
  | n + 1, v1, v2, v4, σ => j_takeNumbers_0_114_H3 (j_takeNumbers_0_114_L3 n) v1 v2 v4 σ
def j_takeNumbers_0_114 (v1 : Int32) (v2 : Int32) (σ : Sg) : Option (Int32 × Sg) :=
  j_takeNumbers_0_114_L3 fu v1 v2 0 σ
def j_pure_0_b69 (s0 : Int32) (σ : Sg) : Option (Int32 × Sg) :=
  some (s0, σ)
def j_pure_0 (v1 : Int32) (σ : Sg) : Option (Int32 × Sg) :=
  bd (j_isList_s v1 σ) fun r1 σ1 => if r1 = 0 then bd (j_refused_0 (-1) σ1) fun r9 σ9 => some (r9, σ9) else bd (j_isMissing_0 v1 σ1) fun r2 σ2 => if r2 = 0 then bd (j_takeNumbers_0_114 v1 (σ2.1 1 0) σ2) fun r3 σ3 => if r3 = 0 then bd (j_refused_0 (-3) σ3) fun r6 σ6 => some (r6, σ6) else bd (j_isPureProduct_51_114 σ3) fun r4 σ4 => if r4 = 0 then j_pure_0_b69 0 σ4 else j_pure_0_b69 1 σ4 else some ((-11), σ2)
def j_isPart_s_b14 (s0 : Int32) (σ : Sg) : Option (Int32 × Sg) :=
  gd (nbB s0) (some (s0, σ))
def j_isPart_s_b9 (σ : Sg) : Option (Int32 × Sg) :=
  j_isPart_s_b14 1 σ
def j_isPart_s (v0 : Int32) (σ : Sg) : Option (Int32 × Sg) :=
  if v0 = 0 then j_isPart_s_b9 σ else if v0 = 1 then j_isPart_s_b9 σ else j_isPart_s_b14 0 σ
def j_partOf_s_b28 (v5 : Int64) (s0 : Int64) (σ : Sg) : Option (Int64 × Sg) :=
  gd (neBL v5) (some (s0 / v5, σ))
def j_partOf_s (v0 : Int64) (v2 : Int64) (v4 : Int32) (σ : Sg) : Option (Int64 × Sg) :=
  bd (j_greatestDivisor_s v0 v2 σ) fun r1 σ1 => if (lg_cmp r1 0) = 0 then some (v4.toInt64, σ1) else if v4 = 0 then j_partOf_s_b28 r1 v0 σ1 else j_partOf_s_b28 r1 v2 σ1
def j_refusedFarLong_0 (v1 : Int32) (σ : Sg) : Option (Int64 × Sg) :=
  bd (j_refused_0 v1 σ) fun r1 σ1 => some (4000000000000000000 - r1.toInt64, σ1)
def j_cover_0_b15 (σ : Sg) : Option (Int64 × Sg) :=
  bd (j_refusedFarLong_0 (-1) σ) fun r1 σ1 => some (r1, σ1)
def j_cover_0_b83 (σ : Sg) : Option (Int64 × Sg) :=
  bd (j_refusedFarLong_0 (-3) σ) fun r1 σ1 => some (r1, σ1)
def j_cover_0 (v1 : Int32) (v2 : Int32) (v3 : Int32) (σ : Sg) : Option (Int64 × Sg) :=
  bd (j_isList_s v1 σ) fun r1 σ1 => if r1 = 0 then j_cover_0_b15 σ1 else bd (j_isGroup_0 v2 σ1) fun r2 σ2 => if r2 = 0 then j_cover_0_b15 σ2 else bd (j_isPart_s v3 σ2) fun r3 σ3 => if r3 = 0 then bd (j_refusedFarLong_0 (-2) σ3) fun r16 σ16 => some (r16, σ16) else bd (j_isMissing_0 v1 σ3) fun r4 σ4 => if r4 = 0 then bd (j_takeNumbers_0_114 v1 (σ4.1 1 0) σ4) fun r5 σ5 => if r5 = 0 then j_cover_0_b83 σ5 else bd (j_isPureProduct_51_114 σ5) fun r6 σ6 => if r6 = 0 then j_cover_0_b83 σ6 else bd (j_looseAt_51 v2 σ6) fun r7 σ7 => bd (j_relation_62_113 r7 σ7) fun _ σ8 => gd (inB r7 8) (gd (inB r7 8) (bd (j_partOf_s ((σ8.1 114 r7.toNatClampNeg).toInt64) ((σ8.1 113 r7.toNatClampNeg).toInt64) v3 σ8) fun r11 σ11 => some (r11, σ11))) else bd (j_refusedFarLong_0 (-11) σ4) fun r14 σ14 => some (r14, σ14)
def j_pureInBox_61_b16 (rs : Int32 → Int32 → Int64 → Sg → Option (Int32 × Sg)) (s0 : Int32) (σ : Sg) : Option (Int32 × Sg) :=
  some (s0, σ)
def j_pureInBox_61_H (rs : Int32 → Int32 → Int64 → Sg → Option (Int32 × Sg)) (v1 : Int32) (v2 : Int32) (v3 : Int64) (σ : Sg) : Option (Int32 × Sg) :=
  if v2 < v1 then gd (inB v2 8) (bd (rs v1 (v2 + 1) (v3 - (σ.2 61 v2.toNatClampNeg)) σ) fun r2 σ2 => bd (rs v1 (v2 + 1) v3 σ2) fun r3 σ3 => gd (inB v2 8) (bd (rs v1 (v2 + 1) (v3 + (σ3.2 61 v2.toNatClampNeg)) σ3) fun r5 σ5 => some ((r2 + r3) + r5, σ5))) else if (lg_cmp v3 0) = 0 then j_pureInBox_61_b16 rs 1 σ else j_pureInBox_61_b16 rs 0 σ
def j_pureInBox_61 : Nat → Int32 → Int32 → Int64 → Sg → Option (Int32 × Sg)
  | 0, _, _, _, _ => none
  | n + 1, v1, v2, v3, σ => j_pureInBox_61_H (j_pureInBox_61 n) v1 v2 v3 σ
def j_countBox_80 (σ : Sg) : Option (Int32 × Sg) :=
  bd (j_pureInBox_61 12 (σ.1 51 0) 0 0 σ) fun r1 σ1 => some (r1, σ1)
def j_box_0 (σ : Sg) : Option (Int32 × Sg) :=
  bd (j_countBox_80 σ) fun r1 σ1 => some (r1, σ1)
def j_fillAII_81_H5 (k5 : Int32 → Int32 → Int32 → Sg → Option (Unit × Sg)) (v1 : Int32) (v2 : Int32) (v3 : Int32) (σ : Sg) : Option (Unit × Sg) :=
  if v3 ≤ v2 then some ((), σ) else gd (inB v2 8) (k5 v1 (v2 + 1) v3 (si σ 81 v2.toNatClampNeg v1))
def j_fillAII_81_L5 : Nat → Int32 → Int32 → Int32 → Sg → Option (Unit × Sg)
  | 0, _, _, _, _ => none
  | n + 1, v1, v2, v3, σ => j_fillAII_81_H5 (j_fillAII_81_L5 n) v1 v2 v3 σ
def j_fillAII_81 (v1 : Int32) (σ : Sg) : Option (Unit × Sg) :=
  j_fillAII_81_L5 fu v1 0 8 σ
def j_hasPure_61_81_H50 (rs : Int32 → Int32 → Int32 → Int64 → Sg → Option (Int32 × Sg)) (k50 : Int32 → Int32 → Int32 → Int64 → Int32 → Int32 → Sg → Option (Int32 × Sg)) (v1 : Int32) (v3 : Int32) (v4 : Int32) (v5 : Int64) (v7 : Int32) (v8 : Int32) (σ : Sg) : Option (Int32 × Sg) :=
  if v4 < v8 then gd (inB v3 8) (some (0, si σ 81 v3.toNatClampNeg 0)) else gd (inB v3 8) (gd (inB v3 8) (bd (rs v1 (v3 + 1) (v4 - (iabs v8)) (v5 + (v8.toInt64 * ((si σ 81 v3.toNatClampNeg v8).2 61 v3.toNatClampNeg))) (si σ 81 v3.toNatClampNeg v8)) fun r4 σ4 => if r4 = 0 then k50 v1 v3 v4 v5 v7 (v8 + v7) σ4 else some (1, σ4)))
def j_hasPure_61_81_L50 (rs : Int32 → Int32 → Int32 → Int64 → Sg → Option (Int32 × Sg)) : Nat → Int32 → Int32 → Int32 → Int64 → Int32 → Int32 → Sg → Option (Int32 × Sg)
  | 0, _, _, _, _, _, _, _ => none
  | n + 1, v1, v3, v4, v5, v7, v8, σ => j_hasPure_61_81_H50 rs (j_hasPure_61_81_L50 rs n) v1 v3 v4 v5 v7 v8 σ
def j_hasPure_61_81_b43 (rs : Int32 → Int32 → Int32 → Int64 → Sg → Option (Int32 × Sg)) (v1 : Int32) (v3 : Int32) (v4 : Int32) (v5 : Int64) (s0 : Int32) (σ : Sg) : Option (Int32 × Sg) :=
  j_hasPure_61_81_L50 rs fu v1 v3 v4 v5 s0 (-v4) σ
def j_hasPure_61_81_b42 (rs : Int32 → Int32 → Int32 → Int64 → Sg → Option (Int32 × Sg)) (v1 : Int32) (v3 : Int32) (v4 : Int32) (v5 : Int64) (σ : Sg) : Option (Int32 × Sg) :=
  j_hasPure_61_81_b43 rs v1 v3 v4 v5 1 σ
def j_hasPure_61_81_b22 (rs : Int32 → Int32 → Int32 → Int64 → Sg → Option (Int32 × Sg)) (s0 : Int32) (σ : Sg) : Option (Int32 × Sg) :=
  gd (nbB s0) (some (s0, σ))
def j_hasPure_61_81_b21 (rs : Int32 → Int32 → Int32 → Int64 → Sg → Option (Int32 × Sg)) (σ : Sg) : Option (Int32 × Sg) :=
  j_hasPure_61_81_b22 rs 0 σ
def j_hasPure_61_81_H (rs : Int32 → Int32 → Int32 → Int64 → Sg → Option (Int32 × Sg)) (v1 : Int32) (v3 : Int32) (v4 : Int32) (v5 : Int64) (σ : Sg) : Option (Int32 × Sg) :=
  if v3 < v1 then if v3 = (v1 - 1) then if v4 ≤ 0 then j_hasPure_61_81_b42 rs v1 v3 v4 v5 σ else j_hasPure_61_81_b43 rs v1 v3 v4 v5 (2 * v4) σ else j_hasPure_61_81_b42 rs v1 v3 v4 v5 σ else if v4 = 0 then if (lg_cmp v5 0) = 0 then j_hasPure_61_81_b22 rs 1 σ else j_hasPure_61_81_b21 rs σ else j_hasPure_61_81_b21 rs σ
def j_hasPure_61_81 : Nat → Int32 → Int32 → Int32 → Int64 → Sg → Option (Int32 × Sg)
  | 0, _, _, _, _, _ => none
  | n + 1, v1, v3, v4, v5, σ => j_hasPure_61_81_H (j_hasPure_61_81 n) v1 v3 v4 v5 σ
def j_findLeast_80_b102 (σ : Sg) : Option (Unit × Sg) :=
  some ((), σ)
def j_findLeast_80_b96 (k41 : Int32 → Sg → Option (Unit × Sg)) (v1 : Int32) (σ : Sg) : Option (Unit × Sg) :=
  k41 (v1 + 1) σ
def j_findLeast_80_H41 (k41 : Int32 → Sg → Option (Unit × Sg)) (v1 : Int32) (σ : Sg) : Option (Unit × Sg) :=
  if 6 < v1 then j_findLeast_80_b102 σ else if (σ.1 80 2) = 0 then bd (j_looseSet_51 σ) fun r1 σ1 => if r1 = 0 then j_findLeast_80_b102 σ1 else bd (j_hasPure_61_81 12 (σ1.1 51 0) 0 v1 0 σ1) fun r2 σ2 => if r2 = 0 then j_findLeast_80_b96 k41 v1 σ2 else j_findLeast_80_b96 k41 v1 (si σ2 80 2 v1) else j_findLeast_80_b102 σ
def j_findLeast_80_L41 : Nat → Int32 → Sg → Option (Unit × Sg)
  | 0, _, _ => none
  | n + 1, v1, σ => j_findLeast_80_H41 (j_findLeast_80_L41 n) v1 σ
def j_findLeast_80 (σ : Sg) : Option (Unit × Sg) :=
  if (σ.1 80 3) = (σ.1 51 1) then some ((), σ) else bd (j_fillAII_81 0 (si (si σ 80 3 (σ.1 51 1)) 80 2 0)) fun _ σ1 => j_findLeast_80_L41 fu 1 σ1
def j_least_0_b50 (s0 : Int32) (σ : Sg) : Option (Int32 × Sg) :=
  some (s0, σ)
def j_least_0_b19 (v1 : Int32) (σ : Sg) : Option (Int32 × Sg) :=
  bd (j_findLeast_80 σ) fun _ σ1 => if v1 = (-1) then j_least_0_b50 (σ1.1 80 2) σ1 else gd (inB v1 8) (j_least_0_b50 (σ1.1 81 v1.toNatClampNeg) σ1)
def j_least_0 (v1 : Int32) (σ : Sg) : Option (Int32 × Sg) :=
  if v1 = (-1) then j_least_0_b19 v1 σ else bd (j_isQuantity_0 v1 σ) fun r1 σ1 => if r1 = 0 then bd (j_refusedFar_0 (-1) σ1) fun r2 σ2 => some (r2, σ2) else j_least_0_b19 v1 σ1
def j_bitCount_s (v0 : Int32) (σ : Sg) : Option (Int32 × Sg) :=
  some ((((((((v0 - ((iush v0 1) &&& 1431655765)) &&& 858993459) + ((iush (v0 - ((iush v0 1) &&& 1431655765)) 2) &&& 858993459)) + (iush (((v0 - ((iush v0 1) &&& 1431655765)) &&& 858993459) + ((iush (v0 - ((iush v0 1) &&& 1431655765)) 2) &&& 858993459)) 4)) &&& 252645135) + (iush (((((v0 - ((iush v0 1) &&& 1431655765)) &&& 858993459) + ((iush (v0 - ((iush v0 1) &&& 1431655765)) 2) &&& 858993459)) + (iush (((v0 - ((iush v0 1) &&& 1431655765)) &&& 858993459) + ((iush (v0 - ((iush v0 1) &&& 1431655765)) 2) &&& 858993459)) 4)) &&& 252645135) 8)) + (iush ((((((v0 - ((iush v0 1) &&& 1431655765)) &&& 858993459) + ((iush (v0 - ((iush v0 1) &&& 1431655765)) 2) &&& 858993459)) + (iush (((v0 - ((iush v0 1) &&& 1431655765)) &&& 858993459) + ((iush (v0 - ((iush v0 1) &&& 1431655765)) 2) &&& 858993459)) 4)) &&& 252645135) + (iush (((((v0 - ((iush v0 1) &&& 1431655765)) &&& 858993459) + ((iush (v0 - ((iush v0 1) &&& 1431655765)) 2) &&& 858993459)) + (iush (((v0 - ((iush v0 1) &&& 1431655765)) &&& 858993459) + ((iush (v0 - ((iush v0 1) &&& 1431655765)) 2) &&& 858993459)) 4)) &&& 252645135) 8)) 16)) &&& 63, σ)
def j_bringUp_71_H25 (k25 : Int32 → Int32 → Sg → Option (Int32 × Sg)) (v2 : Int32) (v3 : Int32) (σ : Sg) : Option (Int32 × Sg) :=
  if (σ.1 71 2) ≤ v3 then some (1, σ) else gd (inB v2 5) (gd (arB 1 (72 + 1 + v2.toNatClampNeg) v3) (gd (inB v2 5) (gd (inB (σ.1 71 3) 5) (gd (arB 1 (72 + 1 + (σ.1 71 3).toNatClampNeg) v3) (gd (arB 1 (72 + 1 + v2.toNatClampNeg) v3) (gd (inB ((sl σ (72 + 1 + v2.toNatClampNeg) v3.toNatClampNeg (σ.2 (72 + 1 + (σ.1 71 3).toNatClampNeg) v3.toNatClampNeg)).1 71 3) 5) (gd (arB 1 (72 + 1 + ((sl σ (72 + 1 + v2.toNatClampNeg) v3.toNatClampNeg (σ.2 (72 + 1 + (σ.1 71 3).toNatClampNeg) v3.toNatClampNeg)).1 71 3).toNatClampNeg) v3) (k25 v2 (v3 + 1) (sl (sl σ (72 + 1 + v2.toNatClampNeg) v3.toNatClampNeg (σ.2 (72 + 1 + (σ.1 71 3).toNatClampNeg) v3.toNatClampNeg)) (72 + 1 + ((sl σ (72 + 1 + v2.toNatClampNeg) v3.toNatClampNeg (σ.2 (72 + 1 + (σ.1 71 3).toNatClampNeg) v3.toNatClampNeg)).1 71 3).toNatClampNeg) v3.toNatClampNeg (σ.2 (72 + 1 + v2.toNatClampNeg) v3.toNatClampNeg))))))))))
def j_bringUp_71_L25 : Nat → Int32 → Int32 → Sg → Option (Int32 × Sg)
  | 0, _, _, _ => none
  | n + 1, v2, v3, σ => j_bringUp_71_H25 (j_bringUp_71_L25 n) v2 v3 σ
def j_bringUp_71_H5 (k5 : Int32 → Int32 → Sg → Option (Int32 × Sg)) (v1 : Int32) (v2 : Int32) (σ : Sg) : Option (Int32 × Sg) :=
  if 5 ≤ v2 then some (0, σ) else gd (inB v2 5) (gd (arB 1 (72 + 1 + v2.toNatClampNeg) v1) (if (lg_cmp (σ.2 (72 + 1 + v2.toNatClampNeg) v1.toNatClampNeg) 0) = 0 then k5 v1 (v2 + 1) σ else j_bringUp_71_L25 fu v2 0 σ))
def j_bringUp_71_L5 : Nat → Int32 → Int32 → Sg → Option (Int32 × Sg)
  | 0, _, _, _ => none
  | n + 1, v1, v2, σ => j_bringUp_71_H5 (j_bringUp_71_L5 n) v1 v2 σ
def j_bringUp_71 (v1 : Int32) (σ : Sg) : Option (Int32 × Sg) :=
  j_bringUp_71_L5 fu v1 (σ.1 71 3) σ
def j_clearOthers_71_b115 (k15 : Int32 → Int64 → Int32 → Sg → Option (Unit × Sg)) (v1 : Int32) (v2 : Int64) (v4 : Int32) (σ : Sg) : Option (Unit × Sg) :=
  k15 v1 v2 (v4 + 1) σ
def j_clearOthers_71_H35 (k15 : Int32 → Int64 → Int32 → Sg → Option (Unit × Sg)) (k35 : Int32 → Int64 → Int32 → Int64 → Int32 → Sg → Option (Unit × Sg)) (v1 : Int32) (v2 : Int64) (v4 : Int32) (v5 : Int64) (v7 : Int32) (σ : Sg) : Option (Unit × Sg) :=
  if (σ.1 71 2) ≤ v7 then j_clearOthers_71_b115 k15 v1 v2 v4 σ else if v4 = (σ.1 71 3) then j_clearOthers_71_b115 k15 v1 v2 v4 σ else if (lg_cmp (σ.2 71 5) 0) = 0 then j_clearOthers_71_b115 k15 v1 v2 v4 σ else gd (inB v4 5) (gd (arB 1 (72 + 1 + v4.toNatClampNeg) v7) (gd (inB v4 5) (gd (inB (σ.1 71 3) 5) (gd (arB 1 (72 + 1 + (σ.1 71 3).toNatClampNeg) v7) (gd (neBL (σ.2 71 5)) (gd (arB 1 (72 + 1 + v4.toNatClampNeg) v7) (k35 v1 v2 v4 v5 (v7 + 1) (sl σ (72 + 1 + v4.toNatClampNeg) v7.toNatClampNeg ((((σ.2 (72 + 1 + v4.toNatClampNeg) v7.toNatClampNeg) * v2) - (v5 * (σ.2 (72 + 1 + (σ.1 71 3).toNatClampNeg) v7.toNatClampNeg))) / (σ.2 71 5))))))))))
def j_clearOthers_71_L35 (k15 : Int32 → Int64 → Int32 → Sg → Option (Unit × Sg)) : Nat → Int32 → Int64 → Int32 → Int64 → Int32 → Sg → Option (Unit × Sg)
  | 0, _, _, _, _, _, _ => none
  | n + 1, v1, v2, v4, v5, v7, σ => j_clearOthers_71_H35 k15 (j_clearOthers_71_L35 k15 n) v1 v2 v4 v5 v7 σ
def j_clearOthers_71_H15 (k15 : Int32 → Int64 → Int32 → Sg → Option (Unit × Sg)) (v1 : Int32) (v2 : Int64) (v4 : Int32) (σ : Sg) : Option (Unit × Sg) :=
  if 5 ≤ v4 then some ((), sl σ 71 5 v2) else gd (inB v4 5) (gd (arB 1 (72 + 1 + v4.toNatClampNeg) v1) (j_clearOthers_71_L35 k15 fu v1 v2 v4 (σ.2 (72 + 1 + v4.toNatClampNeg) v1.toNatClampNeg) 0 σ))
def j_clearOthers_71_L15 : Nat → Int32 → Int64 → Int32 → Sg → Option (Unit × Sg)
  | 0, _, _, _, _ => none
  | n + 1, v1, v2, v4, σ => j_clearOthers_71_H15 (j_clearOthers_71_L15 n) v1 v2 v4 σ
def j_clearOthers_71 (v1 : Int32) (σ : Sg) : Option (Unit × Sg) :=
  gd (inB (σ.1 71 3) 5) (gd (arB 1 (72 + 1 + (σ.1 71 3).toNatClampNeg) v1) (j_clearOthers_71_L15 fu v1 (σ.2 (72 + 1 + (σ.1 71 3).toNatClampNeg) v1.toNatClampNeg) 0 σ))
def j_run_71_52_b142 (k74 : Int32 → Int32 → Sg → Option (Unit × Sg)) (v3 : Int32) (v4 : Int32) (σ : Sg) : Option (Unit × Sg) :=
  k74 v3 (v4 + 1) σ
def j_run_71_52_H74 (k74 : Int32 → Int32 → Sg → Option (Unit × Sg)) (v3 : Int32) (v4 : Int32) (σ : Sg) : Option (Unit × Sg) :=
  if (σ.1 71 2) ≤ v4 then some ((), σ) else bd (j_bit_s v3 v4 σ) fun r1 σ1 => if r1 = 1 then bd (j_bringUp_71 v4 σ1) fun r2 σ2 => if r2 = 0 then j_run_71_52_b142 k74 v3 v4 σ2 else bd (j_clearOthers_71 v4 σ2) fun _ σ3 => gd (inB v4 8) (j_run_71_52_b142 k74 v3 v4 (si (si (si σ3 78 v4.toNatClampNeg (σ3.1 71 3)) 71 4 (((si σ3 78 v4.toNatClampNeg (σ3.1 71 3)).1 71 4) ||| ((1 : Int32) <<< (v4 &&& 31)))) 71 3 (((si (si σ3 78 v4.toNatClampNeg (σ3.1 71 3)) 71 4 (((si σ3 78 v4.toNatClampNeg (σ3.1 71 3)).1 71 4) ||| ((1 : Int32) <<< (v4 &&& 31)))).1 71 3) + 1))) else j_run_71_52_b142 k74 v3 v4 σ1
def j_run_71_52_L74 : Nat → Int32 → Int32 → Sg → Option (Unit × Sg)
  | 0, _, _, _ => none
  | n + 1, v3, v4, σ => j_run_71_52_H74 (j_run_71_52_L74 n) v3 v4 σ
def j_run_71_52_H32 (k23 : Int32 → Int32 → Sg → Option (Unit × Sg)) (k32 : Int32 → Int32 → Int32 → Sg → Option (Unit × Sg)) (v3 : Int32) (v4 : Int32) (v5 : Int32) (σ : Sg) : Option (Unit × Sg) :=
  if (σ.1 71 2) ≤ v5 then k23 v3 (v4 + 1) σ else gd (inB v4 5) (gd (inB v5 8) (gd (arB 0 (52 + 1 + v5.toNatClampNeg) v4) (gd (arB 1 (72 + 1 + v4.toNatClampNeg) v5) (k32 v3 v4 (v5 + 1) (sl σ (72 + 1 + v4.toNatClampNeg) v5.toNatClampNeg ((σ.1 (52 + 1 + v5.toNatClampNeg) v4.toNatClampNeg).toInt64))))))
def j_run_71_52_L32 (k23 : Int32 → Int32 → Sg → Option (Unit × Sg)) : Nat → Int32 → Int32 → Int32 → Sg → Option (Unit × Sg)
  | 0, _, _, _, _ => none
  | n + 1, v3, v4, v5, σ => j_run_71_52_H32 k23 (j_run_71_52_L32 k23 n) v3 v4 v5 σ
def j_run_71_52_H23 (k23 : Int32 → Int32 → Sg → Option (Unit × Sg)) (v3 : Int32) (v4 : Int32) (σ : Sg) : Option (Unit × Sg) :=
  if 5 ≤ v4 then j_run_71_52_L74 fu v3 0 σ else j_run_71_52_L32 k23 fu v3 v4 0 σ
def j_run_71_52_L23 : Nat → Int32 → Int32 → Sg → Option (Unit × Sg)
  | 0, _, _, _ => none
  | n + 1, v3, v4, σ => j_run_71_52_H23 (j_run_71_52_L23 n) v3 v4 σ
def j_run_71_52 (v2 : Int32) (v3 : Int32) (σ : Sg) : Option (Unit × Sg) :=
  j_run_71_52_L23 fu v3 0 (sl (si (si (si σ 71 2 v2) 71 3 0) 71 4 0) 71 5 1)
def j_choose_70_b57 (s0 : Int32) (σ : Sg) : Option (Int32 × Sg) :=
  gd (nbB s0) (some (s0, σ))
def j_choose_70 (v1 : Int32) (σ : Sg) : Option (Int32 × Sg) :=
  bd (j_bitCount_s v1 σ) fun r1 σ1 => if r1 = (σ1.1 62 3) then bd (j_run_71_52 (σ1.1 51 0) v1 σ1) fun _ σ2 => if (σ2.1 71 4) = v1 then j_choose_70_b57 1 σ2 else j_choose_70_b57 0 σ2 else some (0, σ1)
def j_isSet_0_b22 (s0 : Int32) (σ : Sg) : Option (Int32 × Sg) :=
  gd (nbB s0) (some (s0, σ))
def j_isSet_0_b21 (σ : Sg) : Option (Int32 × Sg) :=
  j_isSet_0_b22 0 σ
def j_isSet_0 (v1 : Int32) (σ : Sg) : Option (Int32 × Sg) :=
  if v1 < 0 then j_isSet_0_b21 σ else if ((1 : Int32) <<< ((σ.1 1 0) &&& 31)) ≤ v1 then j_isSet_0_b21 σ else j_isSet_0_b22 1 σ
def j_may_0_b30 (s0 : Int32) (σ : Sg) : Option (Int32 × Sg) :=
  some (s0, σ)
def j_may_0 (v1 : Int32) (σ : Sg) : Option (Int32 × Sg) :=
  bd (j_isSet_0 v1 σ) fun r1 σ1 => if r1 = 0 then bd (j_refused_0 (-1) σ1) fun r4 σ4 => some (r4, σ4) else bd (j_choose_70 v1 σ1) fun r2 σ2 => if r2 = 0 then j_may_0_b30 0 σ2 else j_may_0_b30 1 σ2
def j_relation_71_113_b146 (k102 : Int32 → Int64 → Int32 → Sg → Option (Unit × Sg)) (v1 : Int32) (v3 : Int64) (v5 : Int32) (σ : Sg) : Option (Unit × Sg) :=
  k102 v1 v3 (v5 + 1) σ
def j_relation_71_113_H102 (k102 : Int32 → Int64 → Int32 → Sg → Option (Unit × Sg)) (v1 : Int32) (v3 : Int64) (v5 : Int32) (σ : Sg) : Option (Unit × Sg) :=
  if (σ.1 71 2) ≤ v5 then some ((), σ) else bd (j_bit_s (σ.1 71 4) v5 σ) fun r1 σ1 => if r1 = 1 then gd (inB v5 8) (gd (inB (σ1.1 78 v5.toNatClampNeg) 5) (gd (arB 1 (72 + 1 + (σ1.1 78 v5.toNatClampNeg).toNatClampNeg) v1) (gd (neBL v3) (gd (inB v5 8) (j_relation_71_113_b146 k102 v1 v3 v5 (si σ1 113 v5.toNatClampNeg (((-(σ1.2 (72 + 1 + (σ1.1 78 v5.toNatClampNeg).toNatClampNeg) v1.toNatClampNeg)) / v3).toInt32))))))) else j_relation_71_113_b146 k102 v1 v3 v5 σ1
def j_relation_71_113_L102 : Nat → Int32 → Int64 → Int32 → Sg → Option (Unit × Sg)
  | 0, _, _, _, _ => none
  | n + 1, v1, v3, v5, σ => j_relation_71_113_H102 (j_relation_71_113_L102 n) v1 v3 v5 σ
def j_relation_71_113_b88 (v1 : Int32) (s0 : Int64) (σ : Sg) : Option (Unit × Sg) :=
  gd (neBL s0) (gd (inB v1 8) (j_relation_71_113_L102 fu v1 s0 0 (si σ 113 v1.toNatClampNeg (((σ.2 71 5) / s0).toInt32))))
def j_relation_71_113_b54 (k13 : Int32 → Int64 → Int32 → Sg → Option (Unit × Sg)) (v1 : Int32) (v3 : Int64) (v5 : Int32) (σ : Sg) : Option (Unit × Sg) :=
  k13 v1 v3 (v5 + 1) σ
def j_relation_71_113_H13 (k13 : Int32 → Int64 → Int32 → Sg → Option (Unit × Sg)) (v1 : Int32) (v3 : Int64) (v5 : Int32) (σ : Sg) : Option (Unit × Sg) :=
  if (σ.1 71 2) ≤ v5 then if (lg_cmp v3 0) = 0 then some ((), σ) else if 0 ≤ (lg_cmp (σ.2 71 5) 0) then j_relation_71_113_b88 v1 (labs v3) σ else j_relation_71_113_b88 v1 (-(labs v3)) σ else bd (j_bit_s (σ.1 71 4) v5 σ) fun r3 σ3 => if r3 = 1 then gd (inB v5 8) (gd (inB (σ3.1 78 v5.toNatClampNeg) 5) (gd (arB 1 (72 + 1 + (σ3.1 78 v5.toNatClampNeg).toNatClampNeg) v1) (bd (j_greatestDivisor_s v3 (σ3.2 (72 + 1 + (σ3.1 78 v5.toNatClampNeg).toNatClampNeg) v1.toNatClampNeg) σ3) fun r7 σ7 => j_relation_71_113_b54 k13 v1 r7 v5 σ7))) else j_relation_71_113_b54 k13 v1 v3 v5 σ3
def j_relation_71_113_L13 : Nat → Int32 → Int64 → Int32 → Sg → Option (Unit × Sg)
  | 0, _, _, _, _ => none
  | n + 1, v1, v3, v5, σ => j_relation_71_113_H13 (j_relation_71_113_L13 n) v1 v3 v5 σ
def j_relation_71_113 (v1 : Int32) (σ : Sg) : Option (Unit × Sg) :=
  bd (j_fillAII_113 0 σ) fun _ σ1 => j_relation_71_113_L13 fu v1 (σ1.2 71 5) 0 σ1
def j_isOutside_0_b29 (s0 : Int32) (σ : Sg) : Option (Int32 × Sg) :=
  gd (nbB s0) (some (s0, σ))
def j_isOutside_0_b28 (σ : Sg) : Option (Int32 × Sg) :=
  j_isOutside_0_b29 0 σ
def j_isOutside_0 (v1 : Int32) (v2 : Int32) (σ : Sg) : Option (Int32 × Sg) :=
  bd (j_isSet_0 v1 σ) fun r1 σ1 => if r1 = 0 then j_isOutside_0_b28 σ1 else bd (j_isQuantity_0 v2 σ1) fun r2 σ2 => if r2 = 0 then j_isOutside_0_b28 σ2 else bd (j_bit_s v1 v2 σ2) fun r3 σ3 => if r3 = 0 then j_isOutside_0_b29 1 σ3 else j_isOutside_0_b28 σ3
def j_rest_0_b17 (σ : Sg) : Option (Int32 × Sg) :=
  bd (j_refusedFar_0 (-1) σ) fun r1 σ1 => some (r1, σ1)
def j_rest_0 (v1 : Int32) (v2 : Int32) (v3 : Int32) (σ : Sg) : Option (Int32 × Sg) :=
  bd (j_isOutside_0 v1 v2 σ) fun r1 σ1 => if r1 = 0 then j_rest_0_b17 σ1 else bd (j_isQuantity_0 v3 σ1) fun r2 σ2 => if r2 = 0 then j_rest_0_b17 σ2 else bd (j_choose_70 v1 σ2) fun r3 σ3 => if r3 = 0 then bd (j_refusedFar_0 (-3) σ3) fun r6 σ6 => some (r6, σ6) else bd (j_relation_71_113 v2 σ3) fun _ σ4 => gd (inB v3 8) (some (σ4.1 113 v3.toNatClampNeg, σ4))
def j_fillAII_79_H5 (k5 : Int32 → Int32 → Int32 → Sg → Option (Unit × Sg)) (v1 : Int32) (v2 : Int32) (v3 : Int32) (σ : Sg) : Option (Unit × Sg) :=
  if v3 ≤ v2 then some ((), σ) else gd (inB v2 8) (k5 v1 (v2 + 1) v3 (si σ 79 v2.toNatClampNeg v1))
def j_fillAII_79_L5 : Nat → Int32 → Int32 → Int32 → Sg → Option (Unit × Sg)
  | 0, _, _, _, _ => none
  | n + 1, v1, v2, v3, σ => j_fillAII_79_H5 (j_fillAII_79_L5 n) v1 v2 v3 σ
def j_fillAII_79 (v1 : Int32) (σ : Sg) : Option (Unit × Sg) :=
  j_fillAII_79_L5 fu v1 0 8 σ
def j_relation_71_79_b146 (k102 : Int32 → Int64 → Int32 → Sg → Option (Unit × Sg)) (v1 : Int32) (v3 : Int64) (v5 : Int32) (σ : Sg) : Option (Unit × Sg) :=
  k102 v1 v3 (v5 + 1) σ
def j_relation_71_79_H102 (k102 : Int32 → Int64 → Int32 → Sg → Option (Unit × Sg)) (v1 : Int32) (v3 : Int64) (v5 : Int32) (σ : Sg) : Option (Unit × Sg) :=
  if (σ.1 71 2) ≤ v5 then some ((), σ) else bd (j_bit_s (σ.1 71 4) v5 σ) fun r1 σ1 => if r1 = 1 then gd (inB v5 8) (gd (inB (σ1.1 78 v5.toNatClampNeg) 5) (gd (arB 1 (72 + 1 + (σ1.1 78 v5.toNatClampNeg).toNatClampNeg) v1) (gd (neBL v3) (gd (inB v5 8) (j_relation_71_79_b146 k102 v1 v3 v5 (si σ1 79 v5.toNatClampNeg (((-(σ1.2 (72 + 1 + (σ1.1 78 v5.toNatClampNeg).toNatClampNeg) v1.toNatClampNeg)) / v3).toInt32))))))) else j_relation_71_79_b146 k102 v1 v3 v5 σ1
def j_relation_71_79_L102 : Nat → Int32 → Int64 → Int32 → Sg → Option (Unit × Sg)
  | 0, _, _, _, _ => none
  | n + 1, v1, v3, v5, σ => j_relation_71_79_H102 (j_relation_71_79_L102 n) v1 v3 v5 σ
def j_relation_71_79_b88 (v1 : Int32) (s0 : Int64) (σ : Sg) : Option (Unit × Sg) :=
  gd (neBL s0) (gd (inB v1 8) (j_relation_71_79_L102 fu v1 s0 0 (si σ 79 v1.toNatClampNeg (((σ.2 71 5) / s0).toInt32))))
def j_relation_71_79_b54 (k13 : Int32 → Int64 → Int32 → Sg → Option (Unit × Sg)) (v1 : Int32) (v3 : Int64) (v5 : Int32) (σ : Sg) : Option (Unit × Sg) :=
  k13 v1 v3 (v5 + 1) σ
def j_relation_71_79_H13 (k13 : Int32 → Int64 → Int32 → Sg → Option (Unit × Sg)) (v1 : Int32) (v3 : Int64) (v5 : Int32) (σ : Sg) : Option (Unit × Sg) :=
  if (σ.1 71 2) ≤ v5 then if (lg_cmp v3 0) = 0 then some ((), σ) else if 0 ≤ (lg_cmp (σ.2 71 5) 0) then j_relation_71_79_b88 v1 (labs v3) σ else j_relation_71_79_b88 v1 (-(labs v3)) σ else bd (j_bit_s (σ.1 71 4) v5 σ) fun r3 σ3 => if r3 = 1 then gd (inB v5 8) (gd (inB (σ3.1 78 v5.toNatClampNeg) 5) (gd (arB 1 (72 + 1 + (σ3.1 78 v5.toNatClampNeg).toNatClampNeg) v1) (bd (j_greatestDivisor_s v3 (σ3.2 (72 + 1 + (σ3.1 78 v5.toNatClampNeg).toNatClampNeg) v1.toNatClampNeg) σ3) fun r7 σ7 => j_relation_71_79_b54 k13 v1 r7 v5 σ7))) else j_relation_71_79_b54 k13 v1 v3 v5 σ3
def j_relation_71_79_L13 : Nat → Int32 → Int64 → Int32 → Sg → Option (Unit × Sg)
  | 0, _, _, _, _ => none
  | n + 1, v1, v3, v5, σ => j_relation_71_79_H13 (j_relation_71_79_L13 n) v1 v3 v5 σ
def j_relation_71_79 (v1 : Int32) (σ : Sg) : Option (Unit × Sg) :=
  bd (j_fillAII_79 0 σ) fun _ σ1 => j_relation_71_79_L13 fu v1 (σ1.2 71 5) 0 σ1
def j_sizesOfRests_70_b84 (k4 : Int64 → Int32 → Sg → Option (Int64 × Sg)) (v1 : Int64) (v3 : Int32) (σ : Sg) : Option (Int64 × Sg) :=
  k4 v1 (v3 + 1) σ
def j_sizesOfRests_70_H55 (k4 : Int64 → Int32 → Sg → Option (Int64 × Sg)) (k55 : Int64 → Int32 → Int32 → Int32 → Sg → Option (Int64 × Sg)) (v1 : Int64) (v3 : Int32) (v5 : Int32) (v6 : Int32) (σ : Sg) : Option (Int64 × Sg) :=
  if v5 ≤ v6 then j_sizesOfRests_70_b84 k4 v1 v3 σ else gd (inB v6 8) (k55 (v1 + ((iabs (σ.1 79 v6.toNatClampNeg)).toInt64)) v3 v5 (v6 + 1) σ)
def j_sizesOfRests_70_L55 (k4 : Int64 → Int32 → Sg → Option (Int64 × Sg)) : Nat → Int64 → Int32 → Int32 → Int32 → Sg → Option (Int64 × Sg)
  | 0, _, _, _, _, _ => none
  | n + 1, v1, v3, v5, v6, σ => j_sizesOfRests_70_H55 k4 (j_sizesOfRests_70_L55 k4 n) v1 v3 v5 v6 σ
def j_sizesOfRests_70_H4 (k4 : Int64 → Int32 → Sg → Option (Int64 × Sg)) (v1 : Int64) (v3 : Int32) (σ : Sg) : Option (Int64 × Sg) :=
  if (σ.1 51 0) ≤ v3 then some (v1, σ) else bd (j_bit_s (σ.1 71 4) v3 σ) fun r1 σ1 => if r1 = 0 then bd (j_relation_71_79 v3 σ1) fun _ σ2 => j_sizesOfRests_70_L55 k4 fu v1 v3 8 0 σ2 else j_sizesOfRests_70_b84 k4 v1 v3 σ1
def j_sizesOfRests_70_L4 : Nat → Int64 → Int32 → Sg → Option (Int64 × Sg)
  | 0, _, _, _ => none
  | n + 1, v1, v3, σ => j_sizesOfRests_70_H4 (j_sizesOfRests_70_L4 n) v1 v3 σ
def j_sizesOfRests_70 (σ : Sg) : Option (Int64 × Sg) :=
  j_sizesOfRests_70_L4 fu 0 0 σ
def j_lookAtOne_70_b43 (σ : Sg) : Option (Unit × Sg) :=
  some ((), si σ 70 4 ((σ.1 70 4) + 1))
def j_lookAtOne_70_b33 (v1 : Int32) (v2 : Int64) (σ : Sg) : Option (Unit × Sg) :=
  j_lookAtOne_70_b43 (sl (si σ 70 7 v1) 70 8 v2)
def j_lookAtOne_70_b17 (v1 : Int32) (v2 : Int64) (σ : Sg) : Option (Unit × Sg) :=
  if (σ.1 70 4) = 0 then j_lookAtOne_70_b33 v1 v2 σ else if 0 ≤ (lg_cmp v2 (σ.2 70 8)) then j_lookAtOne_70_b43 σ else j_lookAtOne_70_b33 v1 v2 σ
def j_lookAtOne_70 (v1 : Int32) (σ : Sg) : Option (Unit × Sg) :=
  bd (j_sizesOfRests_70 σ) fun r1 σ1 => if (σ1.1 70 4) = 0 then j_lookAtOne_70_b17 v1 r1 (si σ1 70 6 v1) else j_lookAtOne_70_b17 v1 r1 σ1
def j_lookAtAll_70_b91 (k38 : Int32 → Sg → Option (Unit × Sg)) (v1 : Int32) (σ : Sg) : Option (Unit × Sg) :=
  k38 (v1 + 1) σ
def j_lookAtAll_70_H38 (k38 : Int32 → Sg → Option (Unit × Sg)) (v1 : Int32) (σ : Sg) : Option (Unit × Sg) :=
  if ((1 : Int32) <<< ((σ.1 51 0) &&& 31)) ≤ v1 then some ((), σ) else bd (j_bitCount_s v1 σ) fun r1 σ1 => if r1 = (σ1.1 62 3) then bd (j_choose_70 v1 (si σ1 70 5 ((σ1.1 70 5) + 1))) fun r2 σ2 => if r2 = 0 then j_lookAtAll_70_b91 k38 v1 σ2 else bd (j_lookAtOne_70 v1 σ2) fun _ σ3 => j_lookAtAll_70_b91 k38 v1 σ3 else j_lookAtAll_70_b91 k38 v1 σ1
def j_lookAtAll_70_L38 : Nat → Int32 → Sg → Option (Unit × Sg)
  | 0, _, _ => none
  | n + 1, v1, σ => j_lookAtAll_70_H38 (j_lookAtAll_70_L38 n) v1 σ
def j_lookAtAll_70 (σ : Sg) : Option (Unit × Sg) :=
  if (σ.1 70 3) = (σ.1 51 1) then some ((), σ) else j_lookAtAll_70_L38 fu 0 (si (si (si σ 70 3 (σ.1 51 1)) 70 4 0) 70 5 0)
def j_sets_0_b9 (σ : Sg) : Option (Int32 × Sg) :=
  bd (j_refused_0 (-2) σ) fun r1 σ1 => some (r1, σ1)
def j_sets_0_b57 (s0 : Int32) (σ : Sg) : Option (Int32 × Sg) :=
  some (s0, σ)
def j_sets_0 (v1 : Int32) (σ : Sg) : Option (Int32 × Sg) :=
  if v1 < 0 then j_sets_0_b9 σ else if v1 ≤ 2 then bd (j_lookAtAll_70 σ) fun _ σ1 => if v1 = 0 then some (σ1.1 70 4, σ1) else if v1 = 1 then j_sets_0_b57 (σ1.1 70 6) σ1 else j_sets_0_b57 (σ1.1 70 7) σ1 else j_sets_0_b9 σ
def j_sizes_0 (v1 : Int32) (σ : Sg) : Option (Int64 × Sg) :=
  bd (j_isSet_0 v1 σ) fun r1 σ1 => if r1 = 0 then bd (j_refusedFarLong_0 (-1) σ1) fun r6 σ6 => some (r6, σ6) else bd (j_choose_70 v1 σ1) fun r2 σ2 => if r2 = 0 then bd (j_refusedFarLong_0 (-3) σ2) fun r4 σ4 => some (r4, σ4) else bd (j_sizesOfRests_70 σ2) fun r3 σ3 => some (r3, σ3)
def j_odds_0 (v1 : Int32) (σ : Sg) : Option (Int64 × Sg) :=
  bd (j_isPart_s v1 σ) fun r1 σ1 => if r1 = 0 then bd (j_refusedFarLong_0 (-2) σ1) fun r4 σ4 => some (r4, σ4) else bd (j_lookAtAll_70 σ1) fun _ σ2 => bd (j_partOf_s ((σ2.1 70 4).toInt64) ((σ2.1 70 5).toInt64) v1 σ2) fun r3 σ3 => some (r3, σ3)
def j_scale_0_b27 (σ : Sg) : Option (Int32 × Sg) :=
  bd (j_refused_0 (-4) σ) fun r1 σ1 => some (r1, σ1)
def j_scale_0_b50 (σ : Sg) : Option (Int32 × Sg) :=
  bd (j_refused_0 (-6) σ) fun r1 σ1 => some (r1, σ1)
def j_scale_0_b111 (s1 : Int32) (s2 : Int32) (σ : Sg) : Option (Int32 × Sg) :=
  gd (inB s1 8) (some (1, si σ 13 s1.toNatClampNeg s2))
def j_scale_0_b57 (v1 : Int32) (v2 : Int32) (v3 : Int32) (σ : Sg) : Option (Int32 × Sg) :=
  gd (inB v1 8) (gd (inB v1 8) (bd (j_note_29 2 v1 (σ.1 12 v1.toNatClampNeg) (σ.1 13 v1.toNatClampNeg) σ) fun _ σ3 => gd (inB v1 8) (if v2 = 0 then j_scale_0_b111 v1 1 (si σ3 12 v1.toNatClampNeg v2) else j_scale_0_b111 v1 v3 (si σ3 12 v1.toNatClampNeg v2))))
def j_scale_0_b34 (v1 : Int32) (v2 : Int32) (v3 : Int32) (σ : Sg) : Option (Int32 × Sg) :=
  if 99 < v2 then j_scale_0_b50 σ else if v2 ≤ 0 then j_scale_0_b57 v1 v2 v3 σ else if v3 ≤ 99 then j_scale_0_b57 v1 v2 v3 σ else j_scale_0_b50 σ
def j_scale_0 (v1 : Int32) (v2 : Int32) (v3 : Int32) (σ : Sg) : Option (Int32 × Sg) :=
  bd (j_isQuantity_0 v1 σ) fun r1 σ1 => if r1 = 0 then bd (j_refused_0 (-1) σ1) fun r5 σ5 => some (r5, σ5) else if v2 < 0 then j_scale_0_b27 σ1 else if v2 ≤ 0 then j_scale_0_b34 v1 v2 v3 σ1 else if 1 ≤ v3 then j_scale_0_b34 v1 v2 v3 σ1 else j_scale_0_b27 σ1
def j_hasScale_1_b14 (s0 : Int32) (σ : Sg) : Option (Int32 × Sg) :=
  gd (nbB s0) (some (s0, σ))
def j_hasScale_1 (v1 : Int32) (σ : Sg) : Option (Int32 × Sg) :=
  gd (inB v1 8) (if (σ.1 12 v1.toNatClampNeg) = 0 then j_hasScale_1_b14 0 σ else j_hasScale_1_b14 1 σ)
def j_scaled_0 (v1 : Int32) (v2 : Int32) (σ : Sg) : Option (Int32 × Sg) :=
  bd (j_isQuantity_0 v1 σ) fun r1 σ1 => if r1 = 0 then bd (j_refused_0 (-1) σ1) fun r10 σ10 => some (r10, σ10) else bd (j_isPart_s v2 σ1) fun r2 σ2 => if r2 = 0 then bd (j_refused_0 (-2) σ2) fun r8 σ8 => some (r8, σ8) else bd (j_hasScale_1 v1 σ2) fun r3 σ3 => if r3 = 0 then some ((-9), σ3) else gd (inB v1 8) (gd (inB v1 8) (bd (j_partOf_s ((σ3.1 12 v1.toNatClampNeg).toInt64) ((σ3.1 13 v1.toNatClampNeg).toInt64) v2 σ3) fun r6 σ6 => some (r6.toInt32, σ6)))
def j_scaledSet_1_b28 (k4 : Int32 → Int32 → Sg → Option (Int32 × Sg)) (v2 : Int32) (s0 : Int32) (s1 : Int32) (σ : Sg) : Option (Int32 × Sg) :=
  k4 (s0 ||| s1) (v2 + 1) σ
def j_scaledSet_1_H4 (k4 : Int32 → Int32 → Sg → Option (Int32 × Sg)) (v1 : Int32) (v2 : Int32) (σ : Sg) : Option (Int32 × Sg) :=
  if (σ.1 1 0) ≤ v2 then some (v1, σ) else bd (j_hasScale_1 v2 σ) fun r1 σ1 => if r1 = 0 then j_scaledSet_1_b28 k4 v2 v1 0 σ1 else j_scaledSet_1_b28 k4 v2 v1 ((1 : Int32) <<< (v2 &&& 31)) σ1
def j_scaledSet_1_L4 : Nat → Int32 → Int32 → Sg → Option (Int32 × Sg)
  | 0, _, _, _ => none
  | n + 1, v1, v2, σ => j_scaledSet_1_H4 (j_scaledSet_1_L4 n) v1 v2 σ
def j_scaledSet_1 (σ : Sg) : Option (Int32 × Sg) :=
  j_scaledSet_1_L4 fu 0 0 σ
def j_haveScales_1_b16 (s0 : Int32) (σ : Sg) : Option (Int32 × Sg) :=
  gd (nbB s0) (some (s0, σ))
def j_haveScales_1 (v1 : Int32) (σ : Sg) : Option (Int32 × Sg) :=
  bd (j_scaledSet_1 σ) fun r1 σ1 => if (v1 &&& (r1 ^^^ (-1))) = 0 then j_haveScales_1_b16 1 σ1 else j_haveScales_1_b16 0 σ1
def j_times_s_b42 (v2 : Int32) (σ : Sg) : Option (Int32 × Sg) :=
  some (v2, σ)
def j_times_s_H7 (k7 : Int32 → Int32 → Int32 → Int32 → Sg → Option (Int32 × Sg)) (v0 : Int32) (v2 : Int32) (v3 : Int32) (v4 : Int32) (σ : Sg) : Option (Int32 × Sg) :=
  if 99 ≤ v4 then j_times_s_b42 v2 σ else if v3 ≤ 0 then j_times_s_b42 v2 σ else if v0 ≤ 1 then j_times_s_b42 v2 σ else gd (neB v0) (if (irm v3 v0) = 0 then gd (neB v0) (k7 v0 (v2 + 1) (v3 / v0) (v4 + 1) σ) else j_times_s_b42 v2 σ)
def j_times_s_L7 : Nat → Int32 → Int32 → Int32 → Int32 → Sg → Option (Int32 × Sg)
  | 0, _, _, _, _, _ => none
  | n + 1, v0, v2, v3, v4, σ => j_times_s_H7 (j_times_s_L7 n) v0 v2 v3 v4 σ
def j_times_s (v0 : Int32) (v1 : Int32) (σ : Sg) : Option (Int32 × Sg) :=
  j_times_s_L7 fu v0 0 v1 0 σ
def j_together_1_113_b67 (k6 : Int32 → Int32 → Int64 → Int32 → Sg → Option (Int64 × Sg)) (v2 : Int32) (v3 : Int32) (v4 : Int64) (v6 : Int32) (σ : Sg) : Option (Int64 × Sg) :=
  k6 v2 v3 v4 (v6 + 1) σ
def j_together_1_113_H6 (k6 : Int32 → Int32 → Int64 → Int32 → Sg → Option (Int64 × Sg)) (v2 : Int32) (v3 : Int32) (v4 : Int64) (v6 : Int32) (σ : Sg) : Option (Int64 × Sg) :=
  if (σ.1 1 0) ≤ v6 then some (v4, σ) else bd (j_bit_s v2 v6 σ) fun r1 σ1 => if r1 = 1 then gd (inB v6 8) (if (σ1.1 113 v6.toNatClampNeg) = 0 then j_together_1_113_b67 k6 v2 v3 v4 v6 σ1 else gd (inB v6 8) (gd (inB v6 8) (bd (j_times_s v3 (σ1.1 12 v6.toNatClampNeg) σ1) fun r5 σ5 => gd (inB v6 8) (bd (j_times_s v3 (σ5.1 13 v6.toNatClampNeg) σ5) fun r7 σ7 => j_together_1_113_b67 k6 v2 v3 (v4 + (((σ1.1 113 v6.toNatClampNeg).toInt64) * ((r5 - r7).toInt64))) v6 σ7)))) else j_together_1_113_b67 k6 v2 v3 v4 v6 σ1
def j_together_1_113_L6 : Nat → Int32 → Int32 → Int64 → Int32 → Sg → Option (Int64 × Sg)
  | 0, _, _, _, _, _ => none
  | n + 1, v2, v3, v4, v6, σ => j_together_1_113_H6 (j_together_1_113_L6 n) v2 v3 v4 v6 σ
def j_together_1_113 (v2 : Int32) (v3 : Int32) (σ : Sg) : Option (Int64 × Sg) :=
  j_together_1_113_L6 fu v2 v3 0 0 σ
def j_isUnbalanced_0_113_H23 (k23 : Int32 → Int32 → Int32 → Sg → Option (Int32 × Sg)) (v2 : Int32) (v4 : Int32) (v5 : Int32) (σ : Sg) : Option (Int32 × Sg) :=
  if v4 ≤ v5 then some (0, σ) else gd (inB v5 25) (bd (j_together_1_113 v2 (sv 1004 v5.toNatClampNeg) σ) fun r2 σ2 => if (lg_cmp r2 0) = 0 then k23 v2 v4 (v5 + 1) σ2 else some (1, σ2))
def j_isUnbalanced_0_113_L23 : Nat → Int32 → Int32 → Int32 → Sg → Option (Int32 × Sg)
  | 0, _, _, _, _ => none
  | n + 1, v2, v4, v5, σ => j_isUnbalanced_0_113_H23 (j_isUnbalanced_0_113_L23 n) v2 v4 v5 σ
def j_isUnbalanced_0_113 (σ : Sg) : Option (Int32 × Sg) :=
  j_isUnbalanced_0_113_L23 fu (((1 : Int32) <<< ((σ.1 1 0) &&& 31)) - 1) 25 0 σ
def j_setOf_113_b24 (k4 : Int32 → Int32 → Sg → Option (Int32 × Sg)) (v2 : Int32) (s0 : Int32) (s1 : Int32) (σ : Sg) : Option (Int32 × Sg) :=
  k4 (s0 ||| s1) (v2 + 1) σ
def j_setOf_113_H4 (k4 : Int32 → Int32 → Sg → Option (Int32 × Sg)) (v1 : Int32) (v2 : Int32) (σ : Sg) : Option (Int32 × Sg) :=
  if 8 ≤ v2 then some (v1, σ) else gd (inB v2 8) (if (σ.1 113 v2.toNatClampNeg) = 0 then j_setOf_113_b24 k4 v2 v1 0 σ else j_setOf_113_b24 k4 v2 v1 ((1 : Int32) <<< (v2 &&& 31)) σ)
def j_setOf_113_L4 : Nat → Int32 → Int32 → Sg → Option (Int32 × Sg)
  | 0, _, _, _ => none
  | n + 1, v1, v2, σ => j_setOf_113_H4 (j_setOf_113_L4 n) v1 v2 σ
def j_setOf_113 (σ : Sg) : Option (Int32 × Sg) :=
  j_setOf_113_L4 fu 0 0 σ
def j_alike_0_b78 (k21 : Int32 → Int32 → Sg → Option (Int32 × Sg)) (v1 : Int32) (v2 : Int32) (σ : Sg) : Option (Int32 × Sg) :=
  k21 v1 (v2 + 1) σ
def j_alike_0_H21 (k21 : Int32 → Int32 → Sg → Option (Int32 × Sg)) (v1 : Int32) (v2 : Int32) (σ : Sg) : Option (Int32 × Sg) :=
  if v1 ≤ v2 then some ((-9), σ) else bd (j_looseAt_51 v2 σ) fun r1 σ1 => bd (j_relation_62_113 r1 σ1) fun _ σ2 => bd (j_setOf_113 σ2) fun r3 σ3 => bd (j_haveScales_1 r3 σ3) fun r4 σ4 => if r4 = 0 then j_alike_0_b78 k21 v1 v2 σ4 else bd (j_isUnbalanced_0_113 σ4) fun r5 σ5 => if r5 = 0 then j_alike_0_b78 k21 v1 v2 σ5 else some (v2, σ5)
def j_alike_0_L21 : Nat → Int32 → Int32 → Sg → Option (Int32 × Sg)
  | 0, _, _, _ => none
  | n + 1, v1, v2, σ => j_alike_0_H21 (j_alike_0_L21 n) v1 v2 σ
def j_alike_0 (σ : Sg) : Option (Int32 × Sg) :=
  j_alike_0_L21 fu ((σ.1 51 0) - (σ.1 62 3)) 0 σ
def j_isPrime_s_H9 (k9 : Int32 → Int32 → Int32 → Sg → Option (Int32 × Sg)) (v0 : Int32) (v2 : Int32) (v3 : Int32) (σ : Sg) : Option (Int32 × Sg) :=
  if v2 ≤ v3 then some (0, σ) else gd (inB v3 25) (if (sv 1004 v3.toNatClampNeg) = v0 then some (1, σ) else k9 v0 v2 (v3 + 1) σ)
def j_isPrime_s_L9 : Nat → Int32 → Int32 → Int32 → Sg → Option (Int32 × Sg)
  | 0, _, _, _, _ => none
  | n + 1, v0, v2, v3, σ => j_isPrime_s_H9 (j_isPrime_s_L9 n) v0 v2 v3 σ
def j_isPrime_s (v0 : Int32) (σ : Sg) : Option (Int32 × Sg) :=
  j_isPrime_s_L9 fu v0 25 0 σ
def j_must_0_b30 (σ : Sg) : Option (Int64 × Sg) :=
  bd (j_refusedFarLong_0 (-2) σ) fun r1 σ1 => some (r1, σ1)
def j_must_0_b59 (σ : Sg) : Option (Int64 × Sg) :=
  bd (j_refusedFarLong_0 (-3) σ) fun r1 σ1 => some (r1, σ1)
def j_must_0 (v1 : Int32) (v2 : Int32) (v3 : Int32) (v4 : Int32) (σ : Sg) : Option (Int64 × Sg) :=
  bd (j_isOutside_0 v1 v2 σ) fun r1 σ1 => if r1 = 0 then bd (j_refusedFarLong_0 (-1) σ1) fun r14 σ14 => some (r14, σ14) else bd (j_isPrime_s v3 σ1) fun r2 σ2 => if r2 = 0 then j_must_0_b30 σ2 else bd (j_isPart_s v4 σ2) fun r3 σ3 => if r3 = 0 then j_must_0_b30 σ3 else bd (j_choose_70 v1 σ3) fun r4 σ4 => if r4 = 0 then j_must_0_b59 σ4 else bd (j_haveScales_1 v1 σ4) fun r5 σ5 => if r5 = 0 then j_must_0_b59 σ5 else bd (j_relation_71_113 v2 σ5) fun _ σ6 => bd (j_together_1_113 v1 v3 σ6) fun r7 σ7 => gd (inB v2 8) (bd (j_partOf_s (-r7) ((σ7.1 113 v2.toNatClampNeg).toInt64) v4 σ7) fun r9 σ9 => some (r9, σ9))
def j_whole_0_b37 (σ : Sg) : Option (Int32 × Sg) :=
  bd (j_refused_0 (-3) σ) fun r1 σ1 => some (r1, σ1)
def j_whole_0_H70 (k70 : Int32 → Int32 → Int32 → Int32 → Sg → Option (Int32 × Sg)) (v1 : Int32) (v2 : Int32) (v4 : Int32) (v5 : Int32) (σ : Sg) : Option (Int32 × Sg) :=
  if v4 ≤ v5 then some (1, σ) else gd (inB v5 25) (bd (j_together_1_113 v1 (sv 1004 v5.toNatClampNeg) σ) fun r2 σ2 => gd (inB v2 8) (bd (j_partOf_s r2 ((σ2.1 113 v2.toNatClampNeg).toInt64) 1 σ2) fun r4 σ4 => if (lg_cmp r4 1) = 0 then k70 v1 v2 v4 (v5 + 1) σ4 else some (0, σ4)))
def j_whole_0_L70 : Nat → Int32 → Int32 → Int32 → Int32 → Sg → Option (Int32 × Sg)
  | 0, _, _, _, _, _ => none
  | n + 1, v1, v2, v4, v5, σ => j_whole_0_H70 (j_whole_0_L70 n) v1 v2 v4 v5 σ
def j_whole_0 (v1 : Int32) (v2 : Int32) (σ : Sg) : Option (Int32 × Sg) :=
  bd (j_isOutside_0 v1 v2 σ) fun r1 σ1 => if r1 = 0 then bd (j_refused_0 (-1) σ1) fun r7 σ7 => some (r7, σ7) else bd (j_choose_70 v1 σ1) fun r2 σ2 => if r2 = 0 then j_whole_0_b37 σ2 else bd (j_haveScales_1 v1 σ2) fun r3 σ3 => if r3 = 0 then j_whole_0_b37 σ3 else bd (j_relation_71_113 v2 σ3) fun _ σ4 => j_whole_0_L70 fu v1 v2 25 0 σ4
def j_off_0_b36 (σ : Sg) : Option (Int32 × Sg) :=
  bd (j_refused_0 (-3) σ) fun r1 σ1 => some (r1, σ1)
def j_off_0_b113 (k47 : Int32 → Int32 → Int32 → Sg → Option (Int32 × Sg)) (v1 : Int32) (v2 : Int32) (v3 : Int32) (σ : Sg) : Option (Int32 × Sg) :=
  k47 v1 v2 (v3 + 1) σ
def j_off_0_b111 (k47 : Int32 → Int32 → Int32 → Sg → Option (Int32 × Sg)) (v1 : Int32) (v3 : Int32) (s0 : Int32) (s1 : Int32) (σ : Sg) : Option (Int32 × Sg) :=
  j_off_0_b113 k47 v1 (s0 ||| s1) v3 σ
def j_off_0_H47 (k47 : Int32 → Int32 → Int32 → Sg → Option (Int32 × Sg)) (v1 : Int32) (v2 : Int32) (v3 : Int32) (σ : Sg) : Option (Int32 × Sg) :=
  if (σ.1 1 0) ≤ v3 then some (v2, σ) else bd (j_bit_s v1 v3 σ) fun r1 σ1 => if r1 = 0 then bd (j_hasScale_1 v3 σ1) fun r2 σ2 => if r2 = 0 then j_off_0_b113 k47 v1 v2 v3 σ2 else bd (j_relation_71_113 v3 σ2) fun _ σ3 => bd (j_isUnbalanced_0_113 σ3) fun r4 σ4 => if r4 = 0 then j_off_0_b111 k47 v1 v3 v2 0 σ4 else j_off_0_b111 k47 v1 v3 v2 ((1 : Int32) <<< (v3 &&& 31)) σ4 else j_off_0_b113 k47 v1 v2 v3 σ1
def j_off_0_L47 : Nat → Int32 → Int32 → Int32 → Sg → Option (Int32 × Sg)
  | 0, _, _, _, _ => none
  | n + 1, v1, v2, v3, σ => j_off_0_H47 (j_off_0_L47 n) v1 v2 v3 σ
def j_off_0 (v1 : Int32) (σ : Sg) : Option (Int32 × Sg) :=
  bd (j_isSet_0 v1 σ) fun r1 σ1 => if r1 = 0 then bd (j_refused_0 (-1) σ1) fun r6 σ6 => some (r6, σ6) else bd (j_choose_70 v1 σ1) fun r2 σ2 => if r2 = 0 then j_off_0_b36 σ2 else bd (j_haveScales_1 v1 σ2) fun r3 σ3 => if r3 = 0 then j_off_0_b36 σ3 else j_off_0_L47 fu v1 0 0 σ3
def j_hasRow_82_83_H22 (rs : Int32 → Int32 → Int32 → Int64 → Sg → Option (Int32 × Sg)) (k22 : Int32 → Int32 → Int32 → Int64 → Int32 → Sg → Option (Int32 × Sg)) (v1 : Int32) (v3 : Int32) (v4 : Int32) (v5 : Int64) (v7 : Int32) (σ : Sg) : Option (Int32 × Sg) :=
  if v1 ≤ v7 then some (0, σ) else gd (inB v3 3) (gd (inB v7 16) (bd (rs v1 (v3 + 1) v4 (v5 - ((si σ 83 v3.toNatClampNeg v7).2 82 v7.toNatClampNeg)) (si σ 83 v3.toNatClampNeg v7)) fun r3 σ3 => if r3 = 0 then k22 v1 v3 v4 v5 (v7 + 1) σ3 else some (1, σ3)))
def j_hasRow_82_83_L22 (rs : Int32 → Int32 → Int32 → Int64 → Sg → Option (Int32 × Sg)) : Nat → Int32 → Int32 → Int32 → Int64 → Int32 → Sg → Option (Int32 × Sg)
  | 0, _, _, _, _, _, _ => none
  | n + 1, v1, v3, v4, v5, v7, σ => j_hasRow_82_83_H22 rs (j_hasRow_82_83_L22 rs n) v1 v3 v4 v5 v7 σ
def j_hasRow_82_83_b18 (rs : Int32 → Int32 → Int32 → Int64 → Sg → Option (Int32 × Sg)) (s0 : Int32) (σ : Sg) : Option (Int32 × Sg) :=
  gd (nbB s0) (some (s0, σ))
def j_hasRow_82_83_H (rs : Int32 → Int32 → Int32 → Int64 → Sg → Option (Int32 × Sg)) (v1 : Int32) (v3 : Int32) (v4 : Int32) (v5 : Int64) (σ : Sg) : Option (Int32 × Sg) :=
  if v3 < v4 then j_hasRow_82_83_L22 rs fu v1 v3 v4 v5 0 σ else if (lg_cmp v5 0) = 0 then j_hasRow_82_83_b18 rs 1 σ else j_hasRow_82_83_b18 rs 0 σ
def j_hasRow_82_83 : Nat → Int32 → Int32 → Int32 → Int64 → Sg → Option (Int32 × Sg)
  | 0, _, _, _, _, _ => none
  | n + 1, v1, v3, v4, v5, σ => j_hasRow_82_83_H (j_hasRow_82_83 n) v1 v3 v4 v5 σ
def j_keyOf_115_H11 (k11 : Int64 → Int32 → Int32 → Sg → Option (Int64 × Sg)) (v1 : Int64) (v4 : Int32) (v5 : Int32) (σ : Sg) : Option (Int64 × Sg) :=
  if v4 ≤ v5 then some (v1, σ) else gd (inB v5 5) (k11 ((v1 * 4096) + ((σ.1 115 v5.toNatClampNeg).toInt64)) v4 (v5 + 1) σ)
def j_keyOf_115_L11 : Nat → Int64 → Int32 → Int32 → Sg → Option (Int64 × Sg)
  | 0, _, _, _, _ => none
  | n + 1, v1, v4, v5, σ => j_keyOf_115_H11 (j_keyOf_115_L11 n) v1 v4 v5 σ
def j_keyOf_115 (σ : Sg) : Option (Int64 × Sg) :=
  j_keyOf_115_L11 fu 0 5 0 σ
def j_findRow_80_115_H107 (k107 : Int64 → Int32 → Sg → Option (Int32 × Sg)) (v2 : Int64) (v4 : Int32) (σ : Sg) : Option (Int32 × Sg) :=
  if 3 < v4 then some ((-9), σ) else bd (j_hasRow_82_83 12 (2 * (σ.1 51 0)) 0 v4 v2 σ) fun r1 σ1 => if r1 = 0 then k107 v2 (v4 + 1) σ1 else some (v4, σ1)
def j_findRow_80_115_L107 : Nat → Int64 → Int32 → Sg → Option (Int32 × Sg)
  | 0, _, _, _ => none
  | n + 1, v2, v4, σ => j_findRow_80_115_H107 (j_findRow_80_115_L107 n) v2 v4 σ
def j_findRow_80_115_H45 (k45 : Int32 → Sg → Option (Int32 × Sg)) (v2 : Int32) (σ : Sg) : Option (Int32 × Sg) :=
  if (σ.1 51 0) ≤ v2 then bd (j_keyOf_115 σ) fun r1 σ1 => j_findRow_80_115_L107 fu r1 0 σ1 else gd (inB v2 8) (gd (inB (2 * v2) 16) (gd (inB v2 8) (gd (inB ((2 * v2) + 1) 16) (k45 (v2 + 1) (sl (sl σ 82 (2 * v2).toNatClampNeg (σ.2 61 v2.toNatClampNeg)) 82 ((2 * v2) + 1).toNatClampNeg (-((sl σ 82 (2 * v2).toNatClampNeg (σ.2 61 v2.toNatClampNeg)).2 61 v2.toNatClampNeg)))))))
def j_findRow_80_115_L45 : Nat → Int32 → Sg → Option (Int32 × Sg)
  | 0, _, _ => none
  | n + 1, v2, σ => j_findRow_80_115_H45 (j_findRow_80_115_L45 n) v2 σ
def j_findRow_80_115_b34 (σ : Sg) : Option (Int32 × Sg) :=
  some ((-9), σ)
def j_findRow_80_115_H8 (k8 : Int32 → Int32 → Sg → Option (Int32 × Sg)) (v3 : Int32) (v4 : Int32) (σ : Sg) : Option (Int32 × Sg) :=
  if v3 ≤ v4 then j_findRow_80_115_L45 fu 0 σ else gd (inB v4 5) (if (σ.1 115 v4.toNatClampNeg) < (-99) then j_findRow_80_115_b34 σ else if (σ.1 115 v4.toNatClampNeg) ≤ 99 then k8 v3 (v4 + 1) σ else j_findRow_80_115_b34 σ)
def j_findRow_80_115_L8 : Nat → Int32 → Int32 → Sg → Option (Int32 × Sg)
  | 0, _, _, _ => none
  | n + 1, v3, v4, σ => j_findRow_80_115_H8 (j_findRow_80_115_L8 n) v3 v4 σ
def j_findRow_80_115 (σ : Sg) : Option (Int32 × Sg) :=
  j_findRow_80_115_L8 fu 5 0 σ
def j_fewestAt_80_115_b17 (v3 : Int32) (σ : Sg) : Option (Int32 × Sg) :=
  some (v3, σ)
def j_fewestAt_80_115_b39 (s0 : Int32) (σ : Sg) : Option (Int32 × Sg) :=
  some (s0, σ)
def j_fewestAt_80_115_b37 (σ : Sg) : Option (Int32 × Sg) :=
  j_fewestAt_80_115_b39 (-9) σ
def j_fewestAt_80_115 (v2 : Int32) (σ : Sg) : Option (Int32 × Sg) :=
  bd (j_findRow_80_115 σ) fun r1 σ1 => if v2 = (-1) then j_fewestAt_80_115_b17 r1 σ1 else if r1 = (-9) then j_fewestAt_80_115_b17 r1 σ1 else if v2 < 0 then j_fewestAt_80_115_b37 σ1 else if r1 ≤ v2 then j_fewestAt_80_115_b37 σ1 else gd (inB v2 3) (j_fewestAt_80_115_b39 (σ1.1 83 v2.toNatClampNeg) σ1)
def j_takeNumbers_0_115_b54 (σ : Sg) : Option (Int32 × Sg) :=
  some (0, σ)
def j_takeNumbers_0_115_b35 (k3 : Int32 → Int32 → Int32 → Sg → Option (Int32 × Sg)) (v1 : Int32) (v2 : Int32) (v4 : Int32) (s1 : Int32) (s2 : Int32) (σ : Sg) : Option (Int32 × Sg) :=
  gd (inB s1 5) (gd (inB v4 5) (if ((si σ 115 s1.toNatClampNeg s2).1 115 v4.toNatClampNeg) < (-99) then j_takeNumbers_0_115_b54 (si σ 115 s1.toNatClampNeg s2) else gd (inB v4 5) (if ((si σ 115 s1.toNatClampNeg s2).1 115 v4.toNatClampNeg) ≤ 99 then k3 v1 v2 (v4 + 1) (si σ 115 s1.toNatClampNeg s2) else j_takeNumbers_0_115_b54 (si σ 115 s1.toNatClampNeg s2))))
def j_takeNumbers_0_115_H3 (k3 : Int32 → Int32 → Int32 → Sg → Option (Int32 × Sg)) (v1 : Int32) (v2 : Int32) (v4 : Int32) (σ : Sg) : Option (Int32 × Sg) :=
  if v2 ≤ v4 then some (1, σ) else bd (j_isPlace_0 v1 v4 σ) fun r1 σ1 => if r1 = 0 then j_takeNumbers_0_115_b35 k3 v1 v2 v4 v4 0 σ1 else gd (inB v1 3) (gd (arB 0 (108 + 1 + v1.toNatClampNeg) v4) (j_takeNumbers_0_115_b35 k3 v1 v2 v4 v4 (σ1.1 (108 + 1 + v1.toNatClampNeg) v4.toNatClampNeg) σ1))
def j_takeNumbers_0_115_L3 : Nat → Int32 → Int32 → Int32 → Sg → Option (Int32 × Sg)
  | 0, _, _, _, _ => none
  | n + 1, v1, v2, v4, σ => j_takeNumbers_0_115_H3 (j_takeNumbers_0_115_L3 n) v1 v2 v4 σ
def j_takeNumbers_0_115 (v1 : Int32) (v2 : Int32) (σ : Sg) : Option (Int32 × Sg) :=
  j_takeNumbers_0_115_L3 fu v1 v2 0 σ
def j_fewest_0_b70 (s0 : Int32) (σ : Sg) : Option (Int32 × Sg) :=
  some (s0, σ)
def j_fewest_0 (v1 : Int32) (v2 : Int32) (σ : Sg) : Option (Int32 × Sg) :=
  bd (j_isList_s v1 σ) fun r1 σ1 => if r1 = 0 then bd (j_refused_0 (-1) σ1) fun r10 σ10 => some (r10, σ10) else bd (j_isMissing_0 v1 σ1) fun r2 σ2 => if r2 = 0 then bd (j_takeNumbers_0_115 v1 5 σ2) fun r3 σ3 => if r3 = 0 then bd (j_refused_0 (-3) σ3) fun r7 σ7 => some (r7, σ7) else if (-1) ≤ v2 then bd (j_fewestAt_80_115 v2 σ3) fun r4 σ4 => j_fewest_0_b70 r4 σ4 else bd (j_refused_0 (-4) σ3) fun r5 σ5 => j_fewest_0_b70 r5 σ5 else some ((-11), σ2)
def j_fillAJJ_84_H6 (k6 : Int64 → Int32 → Int32 → Sg → Option (Unit × Sg)) (v1 : Int64) (v3 : Int32) (v4 : Int32) (σ : Sg) : Option (Unit × Sg) :=
  if v4 ≤ v3 then some ((), σ) else gd (inB v3 1024) (k6 v1 (v3 + 1) v4 (sl σ 84 v3.toNatClampNeg v1))
def j_fillAJJ_84_L6 : Nat → Int64 → Int32 → Int32 → Sg → Option (Unit × Sg)
  | 0, _, _, _, _ => none
  | n + 1, v1, v3, v4, σ => j_fillAJJ_84_H6 (j_fillAJJ_84_L6 n) v1 v3 v4 σ
def j_fillAJJ_84 (v1 : Int64) (σ : Sg) : Option (Unit × Sg) :=
  j_fillAJJ_84_L6 fu v1 0 1024 σ
def j_isNew_84_H17 (k17 : Int64 → Int32 → Int32 → Sg → Option (Int32 × Sg)) (v1 : Int64) (v3 : Int32) (v4 : Int32) (σ : Sg) : Option (Int32 × Sg) :=
  if 1024 ≤ v4 then some (0, σ) else gd (inB v3 1024) (if (lg_cmp (σ.2 84 v3.toNatClampNeg) v1) = 0 then some (0, σ) else gd (inB v3 1024) (if (lg_cmp (σ.2 84 v3.toNatClampNeg) (-9223372036854775808)) = 0 then gd (inB v3 1024) (some (1, sl σ 84 v3.toNatClampNeg v1)) else k17 v1 (irm (v3 + 1) 1024) (v4 + 1) σ))
def j_isNew_84_L17 : Nat → Int64 → Int32 → Int32 → Sg → Option (Int32 × Sg)
  | 0, _, _, _, _ => none
  | n + 1, v1, v3, v4, σ => j_isNew_84_H17 (j_isNew_84_L17 n) v1 v3 v4 σ
def j_isNew_84 (v1 : Int64) (σ : Sg) : Option (Int32 × Sg) :=
  j_isNew_84_L17 fu v1 ((lrm (lush (v1 * (-7046029254386353131)) 40) 1024).toInt32) 0 σ
def j_gather_84_61_H28 (rs : Int32 → Int32 → Int32 → Int64 → Sg → Option (Int32 × Sg)) (k28 : Int32 → Int32 → Int32 → Int64 → Int32 → Int32 → Sg → Option (Int32 × Sg)) (v2 : Int32) (v3 : Int32) (v4 : Int32) (v5 : Int64) (v7 : Int32) (v8 : Int32) (σ : Sg) : Option (Int32 × Sg) :=
  if v4 < v8 then some (v7, σ) else gd (inB v3 8) (bd (rs v2 (v3 + 1) (v4 - (iabs v8)) (v5 + (v8.toInt64 * (σ.2 61 v3.toNatClampNeg))) σ) fun r2 σ2 => k28 v2 v3 v4 v5 (v7 + r2) (v8 + 1) σ2)
def j_gather_84_61_L28 (rs : Int32 → Int32 → Int32 → Int64 → Sg → Option (Int32 × Sg)) : Nat → Int32 → Int32 → Int32 → Int64 → Int32 → Int32 → Sg → Option (Int32 × Sg)
  | 0, _, _, _, _, _, _, _ => none
  | n + 1, v2, v3, v4, v5, v7, v8, σ => j_gather_84_61_H28 rs (j_gather_84_61_L28 rs n) v2 v3 v4 v5 v7 v8 σ
def j_gather_84_61_b19 (rs : Int32 → Int32 → Int32 → Int64 → Sg → Option (Int32 × Sg)) (s0 : Int32) (σ : Sg) : Option (Int32 × Sg) :=
  some (s0, σ)
def j_gather_84_61_H (rs : Int32 → Int32 → Int32 → Int64 → Sg → Option (Int32 × Sg)) (v2 : Int32) (v3 : Int32) (v4 : Int32) (v5 : Int64) (σ : Sg) : Option (Int32 × Sg) :=
  if v3 < v2 then j_gather_84_61_L28 rs fu v2 v3 v4 v5 0 (-v4) σ else bd (j_isNew_84 v5 σ) fun r1 σ1 => if r1 = 0 then j_gather_84_61_b19 rs 0 σ1 else j_gather_84_61_b19 rs 1 σ1
def j_gather_84_61 : Nat → Int32 → Int32 → Int32 → Int64 → Sg → Option (Int32 × Sg)
  | 0, _, _, _, _, _ => none
  | n + 1, v2, v3, v4, v5, σ => j_gather_84_61_H (j_gather_84_61 n) v2 v3 v4 v5 σ
def j_dimensionsHad_80 (v1 : Int32) (σ : Sg) : Option (Int32 × Sg) :=
  bd (j_fillAJJ_84 (-9223372036854775808) σ) fun _ σ1 => bd (j_gather_84_61 12 (σ1.1 51 0) 0 v1 0 σ1) fun r2 σ2 => some (r2, σ2)
def j_had_0_b33 (s0 : Int32) (σ : Sg) : Option (Int32 × Sg) :=
  some (s0, σ)
def j_had_0 (v1 : Int32) (σ : Sg) : Option (Int32 × Sg) :=
  if 0 ≤ v1 then if v1 ≤ 3 then bd (j_dimensionsHad_80 v1 σ) fun r1 σ1 => j_had_0_b33 r1 σ1 else bd (j_refused_0 (-6) σ) fun r2 σ2 => j_had_0_b33 r2 σ2 else bd (j_refused_0 (-4) σ) fun r4 σ4 => some (r4, σ4)
def j_keepFormula_1_107 (v2 : Int32) (v3 : Int32) (σ : Sg) : Option (Unit × Sg) :=
  gd (cpB 107 14 0 0 ((si σ 1 6 (imin v2 72)).1 1 6)) (some ((), si (scp (si σ 1 6 (imin v2 72)) 107 14 0 0 (((si σ 1 6 (imin v2 72)).1 1 6).toNatClampNeg)) 1 7 v3))
def j_fillAII_87_H5 (k5 : Int32 → Int32 → Int32 → Sg → Option (Unit × Sg)) (v1 : Int32) (v2 : Int32) (v3 : Int32) (σ : Sg) : Option (Unit × Sg) :=
  if v3 ≤ v2 then some ((), σ) else gd (inB v2 72) (k5 v1 (v2 + 1) v3 (si σ 87 v2.toNatClampNeg v1))
def j_fillAII_87_L5 : Nat → Int32 → Int32 → Int32 → Sg → Option (Unit × Sg)
  | 0, _, _, _, _ => none
  | n + 1, v1, v2, v3, σ => j_fillAII_87_H5 (j_fillAII_87_L5 n) v1 v2 v3 σ
def j_fillAII_87 (v1 : Int32) (σ : Sg) : Option (Unit × Sg) :=
  j_fillAII_87_L5 fu v1 0 72 σ
def j_failHere_85_b17 (σ : Sg) : Option (Unit × Sg) :=
  some ((), σ)
def j_failHere_85 (σ : Sg) : Option (Unit × Sg) :=
  if (σ.1 85 4) = (-9) then j_failHere_85_b17 (si σ 85 4 (σ.1 85 3)) else j_failHere_85_b17 σ
def j_next_85_b33 (s0 : Int32) (σ : Sg) : Option (Int32 × Sg) :=
  some (s0, σ)
def j_next_85_b32 (σ : Sg) : Option (Int32 × Sg) :=
  j_next_85_b33 (-1) σ
def j_next_85 (σ : Sg) : Option (Int32 × Sg) :=
  if (σ.1 85 4) = (-9) then if (σ.1 85 2) ≤ (σ.1 85 3) then j_next_85_b32 σ else gd (inB (σ.1 85 3) 72) (j_next_85_b33 (σ.1 86 (σ.1 85 3).toNatClampNeg) σ) else j_next_85_b32 σ
def j_expect_85_b25 (σ : Sg) : Option (Unit × Sg) :=
  some ((), σ)
def j_expect_85 (v1 : Int32) (σ : Sg) : Option (Unit × Sg) :=
  bd (j_next_85 σ) fun r1 σ1 => if r1 = v1 then j_expect_85_b25 (si σ1 85 3 ((σ1.1 85 3) + 1)) else bd (j_failHere_85 σ1) fun _ σ2 => j_expect_85_b25 σ2
def j_markWrong_85_b17 (σ : Sg) : Option (Unit × Sg) :=
  some ((), σ)
def j_markWrong_85 (v1 : Int32) (σ : Sg) : Option (Unit × Sg) :=
  if v1 < 0 then j_markWrong_85_b17 σ else if 72 ≤ v1 then j_markWrong_85_b17 σ else gd (inB v1 72) (j_markWrong_85_b17 (si σ 87 v1.toNatClampNeg 1))
def j_isNext_85_b20 (s0 : Int32) (σ : Sg) : Option (Int32 × Sg) :=
  gd (nbB s0) (some (s0, σ))
def j_isNext_85_b15 (σ : Sg) : Option (Int32 × Sg) :=
  j_isNext_85_b20 1 σ
def j_isNext_85 (v1 : Int32) (v2 : Int32) (σ : Sg) : Option (Int32 × Sg) :=
  bd (j_next_85 σ) fun r1 σ1 => if r1 = v1 then j_isNext_85_b15 σ1 else if r1 = v2 then j_isNext_85_b15 σ1 else j_isNext_85_b20 0 σ1
def j_isDigit_s_b17 (s0 : Int32) (σ : Sg) : Option (Int32 × Sg) :=
  gd (nbB s0) (some (s0, σ))
def j_isDigit_s_b16 (σ : Sg) : Option (Int32 × Sg) :=
  j_isDigit_s_b17 0 σ
def j_isDigit_s (v0 : Int32) (σ : Sg) : Option (Int32 × Sg) :=
  if v0 < 48 then j_isDigit_s_b16 σ else if 57 < v0 then j_isDigit_s_b16 σ else j_isDigit_s_b17 1 σ
def j_readNumber_85_b33 (σ : Sg) : Option (Unit × Sg) :=
  some ((), σ)
def j_readNumber_85_H2 (k2 : Int32 → Sg → Option (Unit × Sg)) (v1 : Int32) (σ : Sg) : Option (Unit × Sg) :=
  if 3 ≤ v1 then j_readNumber_85_b33 σ else bd (j_next_85 σ) fun r1 σ1 => bd (j_isDigit_s r1 σ1) fun r2 σ2 => if r2 = 0 then j_readNumber_85_b33 σ2 else k2 (v1 + 1) (si σ2 85 3 ((σ2.1 85 3) + 1))
def j_readNumber_85_L2 : Nat → Int32 → Sg → Option (Unit × Sg)
  | 0, _, _ => none
  | n + 1, v1, σ => j_readNumber_85_H2 (j_readNumber_85_L2 n) v1 σ
def j_readNumber_85 (σ : Sg) : Option (Unit × Sg) :=
  j_readNumber_85_L2 fu 0 σ
def j_readPower_85_b44 (v1 : Int32) (σ : Sg) : Option (Int32 × Sg) :=
  bd (j_next_85 σ) fun r1 σ1 => bd (j_isDigit_s r1 σ1) fun r2 σ2 => if r2 = 0 then bd (j_failHere_85 σ2) fun _ σ3 => some (1, σ3) else some (v1 * (r1 - 48), si σ2 85 3 ((σ2.1 85 3) + 1))
def j_readPower_85 (σ : Sg) : Option (Int32 × Sg) :=
  bd (j_next_85 σ) fun r1 σ1 => if r1 = 94 then bd (j_next_85 (si σ1 85 3 ((σ1.1 85 3) + 1))) fun r2 σ2 => if r2 = 45 then j_readPower_85_b44 (-1) (si σ2 85 3 ((σ2.1 85 3) + 1)) else j_readPower_85_b44 1 σ2 else some (1, σ1)
def j_same_x_x_H2 (k2 : Nat → Nat → Int32 → Sg → Option (Int32 × Sg)) (v0 : Nat) (v1 : Nat) (v2 : Int32) (σ : Sg) : Option (Int32 × Sg) :=
  if 5 ≤ v2 then some (1, σ) else gd (arB 0 v0 v2) (gd (arB 0 v1 v2) (if (σ.1 v0 v2.toNatClampNeg) = (σ.1 v1 v2.toNatClampNeg) then k2 v0 v1 (v2 + 1) σ else some (0, σ)))
def j_same_x_x_L2 : Nat → Nat → Nat → Int32 → Sg → Option (Int32 × Sg)
  | 0, _, _, _, _ => none
  | n + 1, v0, v1, v2, σ => j_same_x_x_H2 (j_same_x_x_L2 n) v0 v1 v2 σ
def j_same_x_x (v0 : Nat) (v1 : Nat) (σ : Sg) : Option (Int32 × Sg) :=
  j_same_x_x_L2 fu v0 v1 0 σ
def j_readInner_85_b74 (rs : Int32 → Sg → Option (Unit × Sg)) (σ : Sg) : Option (Nat × Sg) :=
  some (104, σ)
def j_readInner_85_b27 (rs : Int32 → Sg → Option (Unit × Sg)) (v1 : Int32) (v2 : Int32) (v3 : Int32) (σ : Sg) : Option (Nat × Sg) :=
  bd (rs (v1 + 1) σ) fun _ σ1 => bd (j_expect_85 41 σ1) fun _ σ2 => if v2 = 40 then gd (inB (v1 + 1) 7) (some (88 + 1 + (v1 + 1).toNatClampNeg, σ2)) else gd (inB (v1 + 1) 7) (bd (j_isPure_x (88 + 1 + (v1 + 1).toNatClampNeg) σ2) fun r4 σ4 => if r4 = 0 then bd (j_markWrong_85 v3 σ4) fun _ σ5 => j_readInner_85_b74 rs σ5 else j_readInner_85_b74 rs σ4)
def j_readInner_85 (rs : Int32 → Sg → Option (Unit × Sg)) (v1 : Int32) (v2 : Int32) (σ : Sg) : Option (Nat × Sg) :=
  if v2 = 115 then bd (j_expect_85 40 (si σ 85 3 ((σ.1 85 3) + 1))) fun _ σ1 => j_readInner_85_b27 rs v1 v2 (σ.1 85 3) σ1 else j_readInner_85_b27 rs v1 v2 (σ.1 85 3) (si σ 85 3 ((σ.1 85 3) + 1))
def j_readAtom_85_b98 (rs : Int32 → Sg → Option (Unit × Sg)) (σ : Sg) : Option (Nat × Sg) :=
  bd (j_failHere_85 σ) fun _ σ1 => some (104, σ1)
def j_readAtom_85_b85 (rs : Int32 → Sg → Option (Unit × Sg)) (v1 : Int32) (v2 : Int32) (σ : Sg) : Option (Nat × Sg) :=
  if 6 ≤ v1 then j_readAtom_85_b98 rs σ else bd (j_readInner_85 rs v1 v2 σ) fun r1 σ1 => some (r1, σ1)
def j_readAtom_85_b57 (rs : Int32 → Sg → Option (Unit × Sg)) (v1 : Int32) (v2 : Int32) (σ : Sg) : Option (Nat × Sg) :=
  bd (j_isDigit_s v2 σ) fun r1 σ1 => if r1 = 0 then if v2 = 40 then j_readAtom_85_b85 rs v1 v2 σ1 else if v2 = 115 then j_readAtom_85_b85 rs v1 v2 σ1 else j_readAtom_85_b98 rs σ1 else bd (j_readNumber_85 σ1) fun _ σ4 => some (104, σ4)
def j_readAtom_85 (rs : Int32 → Sg → Option (Unit × Sg)) (v1 : Int32) (σ : Sg) : Option (Nat × Sg) :=
  bd (j_next_85 σ) fun r1 σ1 => if (r1 - 65) < 0 then j_readAtom_85_b57 rs v1 r1 σ1 else if (σ1.1 51 0) ≤ (r1 - 65) then j_readAtom_85_b57 rs v1 r1 σ1 else gd (inB (r1 - 65) 8) (some (52 + 1 + (r1 - 65).toNatClampNeg, si (si σ1 85 3 ((σ1.1 85 3) + 1)) 85 6 (((si σ1 85 3 ((σ1.1 85 3) + 1)).1 85 6) ||| ((1 : Int32) <<< ((r1 - 65) &&& 31)))))
def j_readPart_85_H17 (rs : Int32 → Sg → Option (Unit × Sg)) (k17 : Int32 → Nat → Int32 → Int32 → Sg → Option (Unit × Sg)) (v1 : Int32) (v3 : Nat) (v4 : Int32) (v5 : Int32) (σ : Sg) : Option (Unit × Sg) :=
  if 5 ≤ v5 then some ((), σ) else gd (inB v1 7) (gd (arB 0 (96 + 1 + v1.toNatClampNeg) v5) (gd (arB 0 v3 v5) (gd (arB 0 (96 + 1 + v1.toNatClampNeg) v5) (k17 v1 v3 v4 (v5 + 1) (si σ (96 + 1 + v1.toNatClampNeg) v5.toNatClampNeg ((σ.1 (96 + 1 + v1.toNatClampNeg) v5.toNatClampNeg) + (v4 * (σ.1 v3 v5.toNatClampNeg))))))))
def j_readPart_85_L17 (rs : Int32 → Sg → Option (Unit × Sg)) : Nat → Int32 → Nat → Int32 → Int32 → Sg → Option (Unit × Sg)
  | 0, _, _, _, _, _ => none
  | n + 1, v1, v3, v4, v5, σ => j_readPart_85_H17 rs (j_readPart_85_L17 rs n) v1 v3 v4 v5 σ
def j_readPart_85 (rs : Int32 → Sg → Option (Unit × Sg)) (v1 : Int32) (v2 : Int32) (σ : Sg) : Option (Unit × Sg) :=
  bd (j_readAtom_85 rs v1 σ) fun r1 σ1 => bd (j_readPower_85 σ1) fun r2 σ2 => j_readPart_85_L17 rs fu v1 r1 (v2 * r2) 0 σ2
def j_readTerm_85_b82 (rs : Int32 → Sg → Option (Unit × Sg)) (σ : Sg) : Option (Unit × Sg) :=
  some ((), σ)
def j_readTerm_85_b59 (rs : Int32 → Sg → Option (Unit × Sg)) (k28 : Int32 → Int32 → Sg → Option (Unit × Sg)) (v1 : Int32) (v2 : Int32) (s0 : Int32) (σ : Sg) : Option (Unit × Sg) :=
  bd (j_readPart_85 rs v1 s0 (si σ 85 3 ((σ.1 85 3) + 1))) fun _ σ1 => k28 v1 (v2 + 1) σ1
def j_readTerm_85_H28 (rs : Int32 → Sg → Option (Unit × Sg)) (k28 : Int32 → Int32 → Sg → Option (Unit × Sg)) (v1 : Int32) (v2 : Int32) (σ : Sg) : Option (Unit × Sg) :=
  if 72 ≤ v2 then j_readTerm_85_b82 rs σ else bd (j_isNext_85 42 47 σ) fun r1 σ1 => if r1 = 0 then j_readTerm_85_b82 rs σ1 else bd (j_next_85 σ1) fun r2 σ2 => if r2 = 42 then j_readTerm_85_b59 rs k28 v1 v2 1 σ2 else j_readTerm_85_b59 rs k28 v1 v2 (-1) σ2
def j_readTerm_85_L28 (rs : Int32 → Sg → Option (Unit × Sg)) : Nat → Int32 → Int32 → Sg → Option (Unit × Sg)
  | 0, _, _, _ => none
  | n + 1, v1, v2, σ => j_readTerm_85_H28 rs (j_readTerm_85_L28 rs n) v1 v2 σ
def j_readTerm_85 (rs : Int32 → Sg → Option (Unit × Sg)) (v1 : Int32) (σ : Sg) : Option (Unit × Sg) :=
  gd (inB v1 7) (bd (j_fillAII_x (96 + 1 + v1.toNatClampNeg) 0 (si σ 85 5 ((σ.1 85 5) + 1))) fun _ σ2 => bd (j_readPart_85 rs v1 1 σ2) fun _ σ3 => j_readTerm_85_L28 rs fu v1 0 σ3)
def j_readSum_85_b91 (rs : Int32 → Sg → Option (Unit × Sg)) (σ : Sg) : Option (Unit × Sg) :=
  some ((), σ)
def j_readSum_85_b85 (rs : Int32 → Sg → Option (Unit × Sg)) (k25 : Int32 → Int32 → Sg → Option (Unit × Sg)) (v1 : Int32) (v2 : Int32) (σ : Sg) : Option (Unit × Sg) :=
  k25 v1 (v2 + 1) σ
def j_readSum_85_H25 (rs : Int32 → Sg → Option (Unit × Sg)) (k25 : Int32 → Int32 → Sg → Option (Unit × Sg)) (v1 : Int32) (v2 : Int32) (σ : Sg) : Option (Unit × Sg) :=
  if 72 ≤ v2 then j_readSum_85_b91 rs σ else bd (j_isNext_85 43 45 σ) fun r1 σ1 => if r1 = 0 then j_readSum_85_b91 rs σ1 else bd (j_readTerm_85 rs v1 (si σ1 85 3 ((σ1.1 85 3) + 1))) fun _ σ2 => gd (inB v1 7) (gd (inB v1 7) (bd (j_same_x_x (96 + 1 + v1.toNatClampNeg) (88 + 1 + v1.toNatClampNeg) σ2) fun r5 σ5 => if r5 = 0 then bd (j_markWrong_85 ((si σ1 85 3 ((σ1.1 85 3) + 1)).1 85 3) σ5) fun _ σ6 => j_readSum_85_b85 rs k25 v1 v2 σ6 else j_readSum_85_b85 rs k25 v1 v2 σ5))
def j_readSum_85_L25 (rs : Int32 → Sg → Option (Unit × Sg)) : Nat → Int32 → Int32 → Sg → Option (Unit × Sg)
  | 0, _, _, _ => none
  | n + 1, v1, v2, σ => j_readSum_85_H25 rs (j_readSum_85_L25 rs n) v1 v2 σ
def j_readSum_85_H (rs : Int32 → Sg → Option (Unit × Sg)) (v1 : Int32) (σ : Sg) : Option (Unit × Sg) :=
  bd (j_readTerm_85 rs v1 σ) fun _ σ1 => gd (inB v1 7) (gd (inB v1 7) (gd (cpB (96 + 1 + v1.toNatClampNeg) (88 + 1 + v1.toNatClampNeg) 0 0 5) (j_readSum_85_L25 rs fu v1 0 (scp σ1 (96 + 1 + v1.toNatClampNeg) (88 + 1 + v1.toNatClampNeg) 0 0 5))))
def j_readSum_85 : Nat → Int32 → Sg → Option (Unit × Sg)
  | 0, _, _ => none
  | n + 1, v1, σ => j_readSum_85_H (j_readSum_85 n) v1 σ
def j_same_105_106_H2 (k2 : Int32 → Sg → Option (Int32 × Sg)) (v2 : Int32) (σ : Sg) : Option (Int32 × Sg) :=
  if 5 ≤ v2 then some (1, σ) else gd (inB v2 5) (gd (inB v2 5) (if (σ.1 105 v2.toNatClampNeg) = (σ.1 106 v2.toNatClampNeg) then k2 (v2 + 1) σ else some (0, σ)))
def j_same_105_106_L2 : Nat → Int32 → Sg → Option (Int32 × Sg)
  | 0, _, _ => none
  | n + 1, v2, σ => j_same_105_106_H2 (j_same_105_106_L2 n) v2 σ
def j_same_105_106 (σ : Sg) : Option (Int32 × Sg) :=
  j_same_105_106_L2 fu 0 σ
def j_read_85_107_b130 (σ : Sg) : Option (Unit × Sg) :=
  some ((), σ)
def j_read_85_107 (v2 : Int32) (σ : Sg) : Option (Unit × Sg) :=
  gd (cpB 107 86 0 0 ((si σ 85 2 (imin v2 72)).1 85 2)) (bd (j_fillAII_87 0 (si (si (si (si (scp (si σ 85 2 (imin v2 72)) 107 86 0 0 (((si σ 85 2 (imin v2 72)).1 85 2).toNatClampNeg)) 85 3 0) 85 4 (-9)) 85 5 0) 85 6 0)) fun _ σ2 => bd (j_readSum_85 12 0 σ2) fun _ σ3 => gd (cpB 89 105 0 0 5) (bd (j_expect_85 61 (scp σ3 89 105 0 0 5)) fun _ σ5 => bd (j_readSum_85 12 0 σ5) fun _ σ6 => gd (cpB 89 106 0 0 5) (bd (j_expect_85 (-1) (scp σ6 89 106 0 0 5)) fun _ σ8 => bd (j_same_105_106 σ8) fun r9 σ9 => if r9 = 0 then bd (j_markWrong_85 ((scp σ3 89 105 0 0 5).1 85 3) σ9) fun _ σ10 => j_read_85_107_b130 σ10 else j_read_85_107_b130 σ9)))
def j_formula_0 (σ : Sg) : Option (Int32 × Sg) :=
  bd (j_read_85_107 (σ.1 0 9) σ) fun _ σ1 => if ((si σ1 0 9 0).1 85 4) = (-9) then bd (j_keepFormula_1_107 (σ1.1 0 9) ((si σ1 0 9 0).1 85 5) (si σ1 0 9 0)) fun _ σ2 => some (σ2.1 85 5, σ2) else some ((-1000) - ((si σ1 0 9 0).1 85 4), si σ1 0 9 0)
def j_hasFormula_1_b14 (s0 : Int32) (σ : Sg) : Option (Int32 × Sg) :=
  gd (nbB s0) (some (s0, σ))
def j_hasFormula_1 (σ : Sg) : Option (Int32 × Sg) :=
  if (σ.1 1 7) = (-9) then j_hasFormula_1_b14 0 σ else j_hasFormula_1_b14 1 σ
def j_countWrong_85_H13 (k13 : Int32 → Int32 → Int32 → Sg → Option (Int32 × Sg)) (v1 : Int32) (v3 : Int32) (v4 : Int32) (σ : Sg) : Option (Int32 × Sg) :=
  if v3 ≤ v4 then some (v1, σ) else gd (inB v4 72) (k13 (v1 + (σ.1 87 v4.toNatClampNeg)) v3 (v4 + 1) σ)
def j_countWrong_85_L13 : Nat → Int32 → Int32 → Int32 → Sg → Option (Int32 × Sg)
  | 0, _, _, _, _ => none
  | n + 1, v1, v3, v4, σ => j_countWrong_85_H13 (j_countWrong_85_L13 n) v1 v3 v4 σ
def j_countWrong_85 (σ : Sg) : Option (Int32 × Sg) :=
  j_countWrong_85_L13 fu 0 72 0 σ
def j_firstWrong_85_H2 (k2 : Int32 → Sg → Option (Int32 × Sg)) (v1 : Int32) (σ : Sg) : Option (Int32 × Sg) :=
  if (σ.1 85 2) ≤ v1 then some ((-9), σ) else gd (inB v1 72) (if (σ.1 87 v1.toNatClampNeg) = 1 then some (v1, σ) else k2 (v1 + 1) σ)
def j_firstWrong_85_L2 : Nat → Int32 → Sg → Option (Int32 × Sg)
  | 0, _, _ => none
  | n + 1, v1, σ => j_firstWrong_85_H2 (j_firstWrong_85_L2 n) v1 σ
def j_firstWrong_85 (σ : Sg) : Option (Int32 × Sg) :=
  j_firstWrong_85_L2 fu 0 σ
def j_read_85_14_b130 (σ : Sg) : Option (Unit × Sg) :=
  some ((), σ)
def j_read_85_14 (v2 : Int32) (σ : Sg) : Option (Unit × Sg) :=
  gd (cpB 14 86 0 0 ((si σ 85 2 (imin v2 72)).1 85 2)) (bd (j_fillAII_87 0 (si (si (si (si (scp (si σ 85 2 (imin v2 72)) 14 86 0 0 (((si σ 85 2 (imin v2 72)).1 85 2).toNatClampNeg)) 85 3 0) 85 4 (-9)) 85 5 0) 85 6 0)) fun _ σ2 => bd (j_readSum_85 12 0 σ2) fun _ σ3 => gd (cpB 89 105 0 0 5) (bd (j_expect_85 61 (scp σ3 89 105 0 0 5)) fun _ σ5 => bd (j_readSum_85 12 0 σ5) fun _ σ6 => gd (cpB 89 106 0 0 5) (bd (j_expect_85 (-1) (scp σ6 89 106 0 0 5)) fun _ σ8 => bd (j_same_105_106 σ8) fun r9 σ9 => if r9 = 0 then bd (j_markWrong_85 ((scp σ3 89 105 0 0 5).1 85 3) σ9) fun _ σ10 => j_read_85_14_b130 σ10 else j_read_85_14_b130 σ9)))
def j_wrong_0_b9 (σ : Sg) : Option (Int32 × Sg) :=
  bd (j_refused_0 (-2) σ) fun r1 σ1 => some (r1, σ1)
def j_wrong_0_b88 (s0 : Int32) (σ : Sg) : Option (Int32 × Sg) :=
  some (s0, σ)
def j_wrong_0 (v1 : Int32) (σ : Sg) : Option (Int32 × Sg) :=
  if v1 < 0 then j_wrong_0_b9 σ else if v1 ≤ 2 then bd (j_hasFormula_1 σ) fun r1 σ1 => if r1 = 0 then bd (j_refused_0 (-3) σ1) fun r7 σ7 => some (r7, σ7) else bd (j_read_85_14 (σ1.1 1 6) σ1) fun _ σ2 => if v1 = 0 then bd (j_firstWrong_85 σ2) fun r5 σ5 => some (r5, σ5) else if v1 = 1 then bd (j_countWrong_85 σ2) fun r3 σ3 => j_wrong_0_b88 r3 σ3 else j_wrong_0_b88 (σ2.1 85 6) σ2 else j_wrong_0_b9 σ
def j_lacks_85 (v1 : Int32) (σ : Sg) : Option (Int32 × Sg) :=
  gd (inB v1 5) (gd (inB v1 5) (some ((σ.1 105 v1.toNatClampNeg) - (σ.1 106 v1.toNatClampNeg), σ)))
def j_sides_0_b22 (σ : Sg) : Option (Int32 × Sg) :=
  bd (j_refusedFar_0 (-2) σ) fun r1 σ1 => some (r1, σ1)
def j_sides_0_b106 (s0 : Int32) (σ : Sg) : Option (Int32 × Sg) :=
  some (s0, σ)
def j_sides_0 (v1 : Int32) (v2 : Int32) (σ : Sg) : Option (Int32 × Sg) :=
  bd (j_isUnit_s v2 σ) fun r1 σ1 => if r1 = 0 then bd (j_refusedFar_0 (-1) σ1) fun r13 σ13 => some (r13, σ13) else if v1 < 0 then j_sides_0_b22 σ1 else if v1 ≤ 2 then bd (j_hasFormula_1 σ1) fun r2 σ2 => if r2 = 0 then bd (j_refusedFar_0 (-3) σ2) fun r9 σ9 => some (r9, σ9) else bd (j_read_85_14 (σ2.1 1 6) σ2) fun _ σ3 => if v1 = 0 then gd (inB v2 5) (some (σ3.1 105 v2.toNatClampNeg, σ3)) else if v1 = 1 then gd (inB v2 5) (j_sides_0_b106 (σ3.1 106 v2.toNatClampNeg) σ3) else bd (j_lacks_85 v2 σ3) fun r4 σ4 => j_sides_0_b106 r4 σ4 else j_sides_0_b22 σ1
def j_mend_0_H52 (k52 : Int32 → Int32 → Sg → Option (Int32 × Sg)) (v1 : Int32) (v2 : Int32) (σ : Sg) : Option (Int32 × Sg) :=
  if 5 ≤ v2 then bd (j_fewestAt_80_115 v1 σ) fun r1 σ1 => some (r1, σ1) else bd (j_lacks_85 v2 σ) fun r2 σ2 => gd (inB v2 5) (k52 v1 (v2 + 1) (si σ2 115 v2.toNatClampNeg r2))
def j_mend_0_L52 : Nat → Int32 → Int32 → Sg → Option (Int32 × Sg)
  | 0, _, _, _ => none
  | n + 1, v1, v2, σ => j_mend_0_H52 (j_mend_0_L52 n) v1 v2 σ
def j_mend_0 (v1 : Int32) (σ : Sg) : Option (Int32 × Sg) :=
  if (-1) ≤ v1 then bd (j_hasFormula_1 σ) fun r1 σ1 => if r1 = 0 then bd (j_refused_0 (-3) σ1) fun r3 σ3 => some (r3, σ3) else bd (j_read_85_14 (σ1.1 1 6) σ1) fun _ σ2 => j_mend_0_L52 fu v1 0 σ2 else bd (j_refused_0 (-4) σ) fun r5 σ5 => some (r5, σ5)
def j_lots_0_b170 (s0 : Int32) (σ : Sg) : Option (Int32 × Sg) :=
  some (s0, σ)
def j_lots_0_b134 (k53 : Int32 → Int32 → Int32 → Int32 → Int32 → Int32 → Sg → Option (Int32 × Sg)) (v1 : Int32) (v3 : Int32) (v5 : Int32) (v6 : Int32) (v7 : Int32) (s0 : Int32) (s1 : Int32) (σ : Sg) : Option (Int32 × Sg) :=
  bd (j_sizeOfDimension_51_114 σ) fun r1 σ1 => k53 v1 v3 (s0 + s1) (v5 + r1) v6 (v7 + 1) σ1
def j_lots_0_H62 (k53 : Int32 → Int32 → Int32 → Int32 → Int32 → Int32 → Sg → Option (Int32 × Sg)) (k62 : Int32 → Int32 → Int32 → Int32 → Int32 → Int32 → Int32 → Sg → Option (Int32 × Sg)) (v1 : Int32) (v3 : Int32) (v4 : Int32) (v5 : Int32) (v6 : Int32) (v7 : Int32) (v8 : Int32) (σ : Sg) : Option (Int32 × Sg) :=
  if (σ.1 1 0) ≤ v8 then bd (j_isPureProduct_51_114 σ) fun r1 σ1 => if r1 = 0 then j_lots_0_b134 k53 v1 v3 v5 v6 v7 v4 0 σ1 else j_lots_0_b134 k53 v1 v3 v5 v6 v7 v4 1 σ1 else gd (inB v8 8) (k62 v1 v3 v4 v5 ((v6 * 1664525) + 1013904223) v7 (v8 + 1) (si σ 114 v8.toNatClampNeg ((irm ((((v6 * 1664525) + 1013904223) &&& 2147483647) / 256) 5) - 2)))
def j_lots_0_L62 (k53 : Int32 → Int32 → Int32 → Int32 → Int32 → Int32 → Sg → Option (Int32 × Sg)) : Nat → Int32 → Int32 → Int32 → Int32 → Int32 → Int32 → Int32 → Sg → Option (Int32 × Sg)
  | 0, _, _, _, _, _, _, _, _ => none
  | n + 1, v1, v3, v4, v5, v6, v7, v8, σ => j_lots_0_H62 k53 (j_lots_0_L62 k53 n) v1 v3 v4 v5 v6 v7 v8 σ
def j_lots_0_H53 (k53 : Int32 → Int32 → Int32 → Int32 → Int32 → Int32 → Sg → Option (Int32 × Sg)) (v1 : Int32) (v3 : Int32) (v4 : Int32) (v5 : Int32) (v6 : Int32) (v7 : Int32) (σ : Sg) : Option (Int32 × Sg) :=
  if v1 ≤ v7 then if v3 = 0 then j_lots_0_b170 v4 σ else j_lots_0_b170 v5 σ else j_lots_0_L62 k53 fu v1 v3 v4 v5 v6 v7 0 σ
def j_lots_0_L53 : Nat → Int32 → Int32 → Int32 → Int32 → Int32 → Int32 → Sg → Option (Int32 × Sg)
  | 0, _, _, _, _, _, _, _ => none
  | n + 1, v1, v3, v4, v5, v6, v7, σ => j_lots_0_H53 (j_lots_0_L53 n) v1 v3 v4 v5 v6 v7 σ
def j_lots_0_b41 (v1 : Int32) (v2 : Int32) (v3 : Int32) (σ : Sg) : Option (Int32 × Sg) :=
  j_lots_0_L53 fu v1 v3 0 0 v2 0 σ
def j_lots_0 (v1 : Int32) (v2 : Int32) (v3 : Int32) (σ : Sg) : Option (Int32 × Sg) :=
  if 1 ≤ v1 then if v1 ≤ 50 then if v3 = 0 then j_lots_0_b41 v1 v2 v3 σ else if v3 = 1 then j_lots_0_b41 v1 v2 v3 σ else bd (j_refused_0 (-2) σ) fun r1 σ1 => some (r1, σ1) else bd (j_refused_0 (-6) σ) fun r4 σ4 => some (r4, σ4) else bd (j_refused_0 (-4) σ) fun r6 σ6 => some (r6, σ6)
def j_list_0 (v1 : Int32) (v2 : Int32) (σ : Sg) : Option (Int32 × Sg) :=
  bd (j_isList_s v1 σ) fun r1 σ1 => if r1 = 0 then bd (j_refused_0 (-1) σ1) fun r8 σ8 => some (r8, σ8) else if v2 ≤ 40 then if 0 ≤ v2 then gd (inB v1 3) (bd (j_fillAII_x (108 + 1 + v1.toNatClampNeg) 0 σ1) fun _ σ3 => gd (inB v1 3) (some (1, si σ3 112 v1.toNatClampNeg v2))) else some ((-14), σ1) else bd (j_refused_0 (-6) σ1) fun r6 σ6 => some (r6, σ6)
def j_put_0 (v1 : Int32) (v2 : Int32) (v3 : Int32) (σ : Sg) : Option (Int32 × Sg) :=
  bd (j_isList_s v1 σ) fun r1 σ1 => if r1 = 0 then bd (j_refused_0 (-1) σ1) fun r8 σ8 => some (r8, σ8) else bd (j_isMissing_0 v1 σ1) fun r2 σ2 => if r2 = 0 then bd (j_isPlace_0 v1 v2 σ2) fun r3 σ3 => if r3 = 0 then some ((-13), σ3) else gd (inB v1 3) (gd (arB 0 (108 + 1 + v1.toNatClampNeg) v2) (some (1, si σ3 (108 + 1 + v1.toNatClampNeg) v2.toNatClampNeg v3))) else some ((-11), σ2)
def j_look_0_b54 (s0 : Int32) (σ : Sg) : Option (Int32 × Sg) :=
  some (s0, σ)
def j_look_0 (v1 : Int32) (v2 : Int32) (σ : Sg) : Option (Int32 × Sg) :=
  bd (j_isList_s v1 σ) fun r1 σ1 => if r1 = 0 then bd (j_refusedFar_0 (-1) σ1) fun r10 σ10 => some (r10, σ10) else bd (j_isMissing_0 v1 σ1) fun r2 σ2 => if r2 = 0 then bd (j_isPlace_0 v1 v2 σ2) fun r3 σ3 => if r3 = 0 then bd (j_refusedFar_0 (-13) σ3) fun r4 σ4 => j_look_0_b54 r4 σ4 else gd (inB v1 3) (gd (arB 0 (108 + 1 + v1.toNatClampNeg) v2) (j_look_0_b54 (σ3.1 (108 + 1 + v1.toNatClampNeg) v2.toNatClampNeg) σ3)) else bd (j_refusedFar_0 (-11) σ2) fun r8 σ8 => some (r8, σ8)
def j_lays_0_b15 (σ : Sg) : Option (Int32 × Sg) :=
  bd (j_refused_0 (-1) σ) fun r1 σ1 => some (r1, σ1)
def j_lays_0_b54 (σ : Sg) : Option (Int32 × Sg) :=
  some ((-13), σ)
def j_lays_0 (v1 : Int32) (v2 : Int32) (v3 : Int32) (σ : Sg) : Option (Int32 × Sg) :=
  bd (j_isList_s v1 σ) fun r1 σ1 => if r1 = 0 then j_lays_0_b15 σ1 else bd (j_isGroup_0 v3 σ1) fun r2 σ2 => if r2 = 0 then j_lays_0_b15 σ2 else bd (j_isMissing_0 v1 σ2) fun r3 σ3 => if r3 = 0 then if v2 < 0 then j_lays_0_b54 σ3 else gd (inB v1 3) (if v2 ≤ ((σ3.1 112 v1.toNatClampNeg) - (σ3.1 1 0)) then bd (j_looseAt_51 v3 σ3) fun r5 σ5 => bd (j_relation_62_113 r5 σ5) fun _ σ6 => gd (inB v1 3) (gd (cpB 113 (108 + 1 + v1.toNatClampNeg) 0 v2 (σ6.1 1 0)) (some ((scp σ6 113 (108 + 1 + v1.toNatClampNeg) 0 (v2.toNatClampNeg) ((σ6.1 1 0).toNatClampNeg)).1 1 0, scp σ6 113 (108 + 1 + v1.toNatClampNeg) 0 (v2.toNatClampNeg) ((σ6.1 1 0).toNatClampNeg)))) else j_lays_0_b54 σ3) else some ((-11), σ3)
def j_judge_0_b72 (v2 : Int32) (σ : Sg) : Option (Int32 × Sg) :=
  some (v2, σ)
def j_judge_0_H26 (k26 : Int32 → Int32 → Sg → Option (Int32 × Sg)) (v1 : Int32) (v2 : Int32) (σ : Sg) : Option (Int32 × Sg) :=
  gd (inB v1 3) (if (σ.1 112 v1.toNatClampNeg) ≤ v2 then some ((-9), σ) else bd (j_isQuantity_0 (v2 / 5) σ) fun r2 σ2 => if r2 = 0 then j_judge_0_b72 v2 σ2 else gd (inB v1 3) (gd (arB 0 (108 + 1 + v1.toNatClampNeg) v2) (gd (inB (v2 / 5) 8) (gd (arB 0 (52 + 1 + (v2 / 5).toNatClampNeg) (irm v2 5)) (if (σ2.1 (108 + 1 + v1.toNatClampNeg) v2.toNatClampNeg) = (σ2.1 (52 + 1 + (v2 / 5).toNatClampNeg) (irm v2 5).toNatClampNeg) then k26 v1 (v2 + 1) σ2 else j_judge_0_b72 v2 σ2)))))
def j_judge_0_L26 : Nat → Int32 → Int32 → Sg → Option (Int32 × Sg)
  | 0, _, _, _ => none
  | n + 1, v1, v2, σ => j_judge_0_H26 (j_judge_0_L26 n) v1 v2 σ
def j_judge_0 (v1 : Int32) (σ : Sg) : Option (Int32 × Sg) :=
  bd (j_isList_s v1 σ) fun r1 σ1 => if r1 = 0 then bd (j_refused_0 (-1) σ1) fun r4 σ4 => some (r4, σ4) else bd (j_isMissing_0 v1 σ1) fun r2 σ2 => if r2 = 0 then j_judge_0_L26 fu v1 0 σ2 else some ((-11), σ2)
def j_takeBack_29_1_b103 (σ : Sg) : Option (Unit × Sg) :=
  some ((), σ)
def j_takeBack_29_1 (σ : Sg) : Option (Unit × Sg) :=
  gd (inB ((si (si σ 29 1 (irm (((σ.1 29 1) + 20) - 1) 20)) 29 2 (imax (((si σ 29 1 (irm (((σ.1 29 1) + 20) - 1) 20)).1 29 2) - 1) 0)).1 29 1) 20) (gd (arB 0 (30 + 1 + ((si (si σ 29 1 (irm (((σ.1 29 1) + 20) - 1) 20)) 29 2 (imax (((si σ 29 1 (irm (((σ.1 29 1) + 20) - 1) 20)).1 29 2) - 1) 0)).1 29 1).toNatClampNeg) 1) (gd (arB 0 (30 + 1 + ((si (si σ 29 1 (irm (((σ.1 29 1) + 20) - 1) 20)) 29 2 (imax (((si σ 29 1 (irm (((σ.1 29 1) + 20) - 1) 20)).1 29 2) - 1) 0)).1 29 1).toNatClampNeg) 0) (if ((si (si σ 29 1 (irm (((σ.1 29 1) + 20) - 1) 20)) 29 2 (imax (((si σ 29 1 (irm (((σ.1 29 1) + 20) - 1) 20)).1 29 2) - 1) 0)).1 (30 + 1 + ((si (si σ 29 1 (irm (((σ.1 29 1) + 20) - 1) 20)) 29 2 (imax (((si σ 29 1 (irm (((σ.1 29 1) + 20) - 1) 20)).1 29 2) - 1) 0)).1 29 1).toNatClampNeg) 0) = 0 then gd (inB ((si (si σ 29 1 (irm (((σ.1 29 1) + 20) - 1) 20)) 29 2 (imax (((si σ 29 1 (irm (((σ.1 29 1) + 20) - 1) 20)).1 29 2) - 1) 0)).1 (30 + 1 + ((si (si σ 29 1 (irm (((σ.1 29 1) + 20) - 1) 20)) 29 2 (imax (((si σ 29 1 (irm (((σ.1 29 1) + 20) - 1) 20)).1 29 2) - 1) 0)).1 29 1).toNatClampNeg) 1) 8) (gd (arB 0 (30 + 1 + ((si (si σ 29 1 (irm (((σ.1 29 1) + 20) - 1) 20)) 29 2 (imax (((si σ 29 1 (irm (((σ.1 29 1) + 20) - 1) 20)).1 29 2) - 1) 0)).1 29 1).toNatClampNeg) 2) (gd (arB 0 (30 + 1 + ((si (si σ 29 1 (irm (((σ.1 29 1) + 20) - 1) 20)) 29 2 (imax (((si σ 29 1 (irm (((σ.1 29 1) + 20) - 1) 20)).1 29 2) - 1) 0)).1 29 1).toNatClampNeg) 3) (gd (arB 0 (3 + 1 + ((si (si σ 29 1 (irm (((σ.1 29 1) + 20) - 1) 20)) 29 2 (imax (((si σ 29 1 (irm (((σ.1 29 1) + 20) - 1) 20)).1 29 2) - 1) 0)).1 (30 + 1 + ((si (si σ 29 1 (irm (((σ.1 29 1) + 20) - 1) 20)) 29 2 (imax (((si σ 29 1 (irm (((σ.1 29 1) + 20) - 1) 20)).1 29 2) - 1) 0)).1 29 1).toNatClampNeg) 1).toNatClampNeg) ((si (si σ 29 1 (irm (((σ.1 29 1) + 20) - 1) 20)) 29 2 (imax (((si σ 29 1 (irm (((σ.1 29 1) + 20) - 1) 20)).1 29 2) - 1) 0)).1 (30 + 1 + ((si (si σ 29 1 (irm (((σ.1 29 1) + 20) - 1) 20)) 29 2 (imax (((si σ 29 1 (irm (((σ.1 29 1) + 20) - 1) 20)).1 29 2) - 1) 0)).1 29 1).toNatClampNeg) 2)) (j_takeBack_29_1_b103 (si (si (si σ 29 1 (irm (((σ.1 29 1) + 20) - 1) 20)) 29 2 (imax (((si σ 29 1 (irm (((σ.1 29 1) + 20) - 1) 20)).1 29 2) - 1) 0)) (3 + 1 + ((si (si σ 29 1 (irm (((σ.1 29 1) + 20) - 1) 20)) 29 2 (imax (((si σ 29 1 (irm (((σ.1 29 1) + 20) - 1) 20)).1 29 2) - 1) 0)).1 (30 + 1 + ((si (si σ 29 1 (irm (((σ.1 29 1) + 20) - 1) 20)) 29 2 (imax (((si σ 29 1 (irm (((σ.1 29 1) + 20) - 1) 20)).1 29 2) - 1) 0)).1 29 1).toNatClampNeg) 1).toNatClampNeg) ((si (si σ 29 1 (irm (((σ.1 29 1) + 20) - 1) 20)) 29 2 (imax (((si σ 29 1 (irm (((σ.1 29 1) + 20) - 1) 20)).1 29 2) - 1) 0)).1 (30 + 1 + ((si (si σ 29 1 (irm (((σ.1 29 1) + 20) - 1) 20)) 29 2 (imax (((si σ 29 1 (irm (((σ.1 29 1) + 20) - 1) 20)).1 29 2) - 1) 0)).1 29 1).toNatClampNeg) 2).toNatClampNeg ((si (si σ 29 1 (irm (((σ.1 29 1) + 20) - 1) 20)) 29 2 (imax (((si σ 29 1 (irm (((σ.1 29 1) + 20) - 1) 20)).1 29 2) - 1) 0)).1 (30 + 1 + ((si (si σ 29 1 (irm (((σ.1 29 1) + 20) - 1) 20)) 29 2 (imax (((si σ 29 1 (irm (((σ.1 29 1) + 20) - 1) 20)).1 29 2) - 1) 0)).1 29 1).toNatClampNeg) 3)))))) else gd (arB 0 (30 + 1 + ((si (si σ 29 1 (irm (((σ.1 29 1) + 20) - 1) 20)) 29 2 (imax (((si σ 29 1 (irm (((σ.1 29 1) + 20) - 1) 20)).1 29 2) - 1) 0)).1 29 1).toNatClampNeg) 0) (if ((si (si σ 29 1 (irm (((σ.1 29 1) + 20) - 1) 20)) 29 2 (imax (((si σ 29 1 (irm (((σ.1 29 1) + 20) - 1) 20)).1 29 2) - 1) 0)).1 (30 + 1 + ((si (si σ 29 1 (irm (((σ.1 29 1) + 20) - 1) 20)) 29 2 (imax (((si σ 29 1 (irm (((σ.1 29 1) + 20) - 1) 20)).1 29 2) - 1) 0)).1 29 1).toNatClampNeg) 0) = 1 then gd (arB 0 (30 + 1 + ((si (si σ 29 1 (irm (((σ.1 29 1) + 20) - 1) 20)) 29 2 (imax (((si σ 29 1 (irm (((σ.1 29 1) + 20) - 1) 20)).1 29 2) - 1) 0)).1 29 1).toNatClampNeg) 2) (gd (inB ((si (si σ 29 1 (irm (((σ.1 29 1) + 20) - 1) 20)) 29 2 (imax (((si σ 29 1 (irm (((σ.1 29 1) + 20) - 1) 20)).1 29 2) - 1) 0)).1 (30 + 1 + ((si (si σ 29 1 (irm (((σ.1 29 1) + 20) - 1) 20)) 29 2 (imax (((si σ 29 1 (irm (((σ.1 29 1) + 20) - 1) 20)).1 29 2) - 1) 0)).1 29 1).toNatClampNeg) 1) 8) (j_takeBack_29_1_b103 (si (si (si σ 29 1 (irm (((σ.1 29 1) + 20) - 1) 20)) 29 2 (imax (((si σ 29 1 (irm (((σ.1 29 1) + 20) - 1) 20)).1 29 2) - 1) 0)) 2 ((si (si σ 29 1 (irm (((σ.1 29 1) + 20) - 1) 20)) 29 2 (imax (((si σ 29 1 (irm (((σ.1 29 1) + 20) - 1) 20)).1 29 2) - 1) 0)).1 (30 + 1 + ((si (si σ 29 1 (irm (((σ.1 29 1) + 20) - 1) 20)) 29 2 (imax (((si σ 29 1 (irm (((σ.1 29 1) + 20) - 1) 20)).1 29 2) - 1) 0)).1 29 1).toNatClampNeg) 1).toNatClampNeg ((si (si σ 29 1 (irm (((σ.1 29 1) + 20) - 1) 20)) 29 2 (imax (((si σ 29 1 (irm (((σ.1 29 1) + 20) - 1) 20)).1 29 2) - 1) 0)).1 (30 + 1 + ((si (si σ 29 1 (irm (((σ.1 29 1) + 20) - 1) 20)) 29 2 (imax (((si σ 29 1 (irm (((σ.1 29 1) + 20) - 1) 20)).1 29 2) - 1) 0)).1 29 1).toNatClampNeg) 2)))) else gd (arB 0 (30 + 1 + ((si (si σ 29 1 (irm (((σ.1 29 1) + 20) - 1) 20)) 29 2 (imax (((si σ 29 1 (irm (((σ.1 29 1) + 20) - 1) 20)).1 29 2) - 1) 0)).1 29 1).toNatClampNeg) 2) (gd (inB ((si (si σ 29 1 (irm (((σ.1 29 1) + 20) - 1) 20)) 29 2 (imax (((si σ 29 1 (irm (((σ.1 29 1) + 20) - 1) 20)).1 29 2) - 1) 0)).1 (30 + 1 + ((si (si σ 29 1 (irm (((σ.1 29 1) + 20) - 1) 20)) 29 2 (imax (((si σ 29 1 (irm (((σ.1 29 1) + 20) - 1) 20)).1 29 2) - 1) 0)).1 29 1).toNatClampNeg) 1) 8) (gd (arB 0 (30 + 1 + ((si (si σ 29 1 (irm (((σ.1 29 1) + 20) - 1) 20)) 29 2 (imax (((si σ 29 1 (irm (((σ.1 29 1) + 20) - 1) 20)).1 29 2) - 1) 0)).1 29 1).toNatClampNeg) 3) (gd (inB ((si (si σ 29 1 (irm (((σ.1 29 1) + 20) - 1) 20)) 29 2 (imax (((si σ 29 1 (irm (((σ.1 29 1) + 20) - 1) 20)).1 29 2) - 1) 0)).1 (30 + 1 + ((si (si σ 29 1 (irm (((σ.1 29 1) + 20) - 1) 20)) 29 2 (imax (((si σ 29 1 (irm (((σ.1 29 1) + 20) - 1) 20)).1 29 2) - 1) 0)).1 29 1).toNatClampNeg) 1) 8) (j_takeBack_29_1_b103 (si (si (si (si σ 29 1 (irm (((σ.1 29 1) + 20) - 1) 20)) 29 2 (imax (((si σ 29 1 (irm (((σ.1 29 1) + 20) - 1) 20)).1 29 2) - 1) 0)) 12 ((si (si σ 29 1 (irm (((σ.1 29 1) + 20) - 1) 20)) 29 2 (imax (((si σ 29 1 (irm (((σ.1 29 1) + 20) - 1) 20)).1 29 2) - 1) 0)).1 (30 + 1 + ((si (si σ 29 1 (irm (((σ.1 29 1) + 20) - 1) 20)) 29 2 (imax (((si σ 29 1 (irm (((σ.1 29 1) + 20) - 1) 20)).1 29 2) - 1) 0)).1 29 1).toNatClampNeg) 1).toNatClampNeg ((si (si σ 29 1 (irm (((σ.1 29 1) + 20) - 1) 20)) 29 2 (imax (((si σ 29 1 (irm (((σ.1 29 1) + 20) - 1) 20)).1 29 2) - 1) 0)).1 (30 + 1 + ((si (si σ 29 1 (irm (((σ.1 29 1) + 20) - 1) 20)) 29 2 (imax (((si σ 29 1 (irm (((σ.1 29 1) + 20) - 1) 20)).1 29 2) - 1) 0)).1 29 1).toNatClampNeg) 2)) 13 ((si (si σ 29 1 (irm (((σ.1 29 1) + 20) - 1) 20)) 29 2 (imax (((si σ 29 1 (irm (((σ.1 29 1) + 20) - 1) 20)).1 29 2) - 1) 0)).1 (30 + 1 + ((si (si σ 29 1 (irm (((σ.1 29 1) + 20) - 1) 20)) 29 2 (imax (((si σ 29 1 (irm (((σ.1 29 1) + 20) - 1) 20)).1 29 2) - 1) 0)).1 29 1).toNatClampNeg) 1).toNatClampNeg ((si (si (si σ 29 1 (irm (((σ.1 29 1) + 20) - 1) 20)) 29 2 (imax (((si σ 29 1 (irm (((σ.1 29 1) + 20) - 1) 20)).1 29 2) - 1) 0)) 12 ((si (si σ 29 1 (irm (((σ.1 29 1) + 20) - 1) 20)) 29 2 (imax (((si σ 29 1 (irm (((σ.1 29 1) + 20) - 1) 20)).1 29 2) - 1) 0)).1 (30 + 1 + ((si (si σ 29 1 (irm (((σ.1 29 1) + 20) - 1) 20)) 29 2 (imax (((si σ 29 1 (irm (((σ.1 29 1) + 20) - 1) 20)).1 29 2) - 1) 0)).1 29 1).toNatClampNeg) 1).toNatClampNeg ((si (si σ 29 1 (irm (((σ.1 29 1) + 20) - 1) 20)) 29 2 (imax (((si σ 29 1 (irm (((σ.1 29 1) + 20) - 1) 20)).1 29 2) - 1) 0)).1 (30 + 1 + ((si (si σ 29 1 (irm (((σ.1 29 1) + 20) - 1) 20)) 29 2 (imax (((si σ 29 1 (irm (((σ.1 29 1) + 20) - 1) 20)).1 29 2) - 1) 0)).1 29 1).toNatClampNeg) 2)).1 (30 + 1 + ((si (si σ 29 1 (irm (((σ.1 29 1) + 20) - 1) 20)) 29 2 (imax (((si σ 29 1 (irm (((σ.1 29 1) + 20) - 1) 20)).1 29 2) - 1) 0)).1 29 1).toNatClampNeg) 3))))))))))
def j_undo_0 (σ : Sg) : Option (Int32 × Sg) :=
  if (σ.1 29 2) = 0 then bd (j_refused_0 (-3) σ) fun r3 σ3 => some (r3, σ3) else bd (j_takeBack_29_1 σ) fun _ σ1 => bd (j_measure_51_1 σ1) fun _ σ2 => some (σ2.1 29 2, σ2)
def j_keepFormula_15_14 (v2 : Int32) (v3 : Int32) (σ : Sg) : Option (Unit × Sg) :=
  gd (cpB 14 28 0 0 ((si σ 15 6 (imin v2 72)).1 15 6)) (some ((), si (scp (si σ 15 6 (imin v2 72)) 14 28 0 0 (((si σ 15 6 (imin v2 72)).1 15 6).toNatClampNeg)) 15 7 v3))
def j_copyFrom_15_1_H10 (k10 : Int32 → Sg → Option (Unit × Sg)) (v2 : Int32) (σ : Sg) : Option (Unit × Sg) :=
  if (σ.1 15 0) ≤ v2 then bd (j_keepFormula_15_14 (σ.1 1 6) (σ.1 1 7) σ) fun _ σ1 => some ((), σ1) else gd (inB v2 8) (gd (inB v2 8) (gd (inB v2 8) (gd (inB v2 8) (gd (inB v2 8) (gd (inB v2 8) (gd (inB v2 8) (gd (inB v2 8) (gd (cpB (3 + 1 + v2.toNatClampNeg) (17 + 1 + v2.toNatClampNeg) 0 0 5) (k10 (v2 + 1) (scp (si (si (si σ 16 v2.toNatClampNeg (σ.1 2 v2.toNatClampNeg)) 26 v2.toNatClampNeg ((si σ 16 v2.toNatClampNeg (σ.1 2 v2.toNatClampNeg)).1 12 v2.toNatClampNeg)) 27 v2.toNatClampNeg ((si (si σ 16 v2.toNatClampNeg (σ.1 2 v2.toNatClampNeg)) 26 v2.toNatClampNeg ((si σ 16 v2.toNatClampNeg (σ.1 2 v2.toNatClampNeg)).1 12 v2.toNatClampNeg)).1 13 v2.toNatClampNeg)) (3 + 1 + v2.toNatClampNeg) (17 + 1 + v2.toNatClampNeg) 0 0 5))))))))))
def j_copyFrom_15_1_L10 : Nat → Int32 → Sg → Option (Unit × Sg)
  | 0, _, _ => none
  | n + 1, v2, σ => j_copyFrom_15_1_H10 (j_copyFrom_15_1_L10 n) v2 σ
def j_copyFrom_15_1 (σ : Sg) : Option (Unit × Sg) :=
  j_copyFrom_15_1_L10 fu 0 (si σ 15 0 (σ.1 1 0))
def j_image_0 (σ : Sg) : Option (Int32 × Sg) :=
  bd (j_copyFrom_15_1 σ) fun _ σ1 => some ((si σ1 0 2 1).1 1 0, si σ1 0 2 1)
def j_keepFormula_1_28 (v2 : Int32) (v3 : Int32) (σ : Sg) : Option (Unit × Sg) :=
  gd (cpB 28 14 0 0 ((si σ 1 6 (imin v2 72)).1 1 6)) (some ((), si (scp (si σ 1 6 (imin v2 72)) 28 14 0 0 (((si σ 1 6 (imin v2 72)).1 1 6).toNatClampNeg)) 1 7 v3))
def j_copyFrom_1_15_H10 (k10 : Int32 → Sg → Option (Unit × Sg)) (v2 : Int32) (σ : Sg) : Option (Unit × Sg) :=
  if (σ.1 1 0) ≤ v2 then bd (j_keepFormula_1_28 (σ.1 15 6) (σ.1 15 7) σ) fun _ σ1 => some ((), σ1) else gd (inB v2 8) (gd (inB v2 8) (gd (inB v2 8) (gd (inB v2 8) (gd (inB v2 8) (gd (inB v2 8) (gd (inB v2 8) (gd (inB v2 8) (gd (cpB (17 + 1 + v2.toNatClampNeg) (3 + 1 + v2.toNatClampNeg) 0 0 5) (k10 (v2 + 1) (scp (si (si (si σ 2 v2.toNatClampNeg (σ.1 16 v2.toNatClampNeg)) 12 v2.toNatClampNeg ((si σ 2 v2.toNatClampNeg (σ.1 16 v2.toNatClampNeg)).1 26 v2.toNatClampNeg)) 13 v2.toNatClampNeg ((si (si σ 2 v2.toNatClampNeg (σ.1 16 v2.toNatClampNeg)) 12 v2.toNatClampNeg ((si σ 2 v2.toNatClampNeg (σ.1 16 v2.toNatClampNeg)).1 26 v2.toNatClampNeg)).1 27 v2.toNatClampNeg)) (17 + 1 + v2.toNatClampNeg) (3 + 1 + v2.toNatClampNeg) 0 0 5))))))))))
def j_copyFrom_1_15_L10 : Nat → Int32 → Sg → Option (Unit × Sg)
  | 0, _, _ => none
  | n + 1, v2, σ => j_copyFrom_1_15_H10 (j_copyFrom_1_15_L10 n) v2 σ
def j_copyFrom_1_15 (σ : Sg) : Option (Unit × Sg) :=
  j_copyFrom_1_15_L10 fu 0 (si σ 1 0 (σ.1 15 0))
def j_on_0 (σ : Sg) : Option (Int32 × Sg) :=
  if (σ.1 0 2) = 0 then bd (j_refused_0 (-3) σ) fun r4 σ4 => some (r4, σ4) else bd (j_copyFrom_1_15 σ) fun _ σ1 => bd (j_forget_29 σ1) fun _ σ2 => bd (j_measure_51_1 σ2) fun _ σ3 => some (σ3.1 1 0, σ3)
def j_count_0_b87 (s0 : Int32) (σ : Sg) : Option (Int32 × Sg) :=
  some (s0, σ)
def j_count_0_b85 (σ : Sg) : Option (Int32 × Sg) :=
  j_count_0_b87 (-9) σ
def j_count_0 (v1 : Int32) (σ : Sg) : Option (Int32 × Sg) :=
  if v1 = 0 then some (σ.1 1 0, σ) else if v1 = 1 then some (σ.1 0 9, σ) else if v1 = 2 then bd (j_scaledSet_1 σ) fun r6 σ6 => some (r6, σ6) else if v1 = 3 then some (σ.1 1 7, σ) else if v1 = 4 then some (σ.1 29 2, σ) else if v1 < 11 then j_count_0_b85 σ else if 16 < v1 then j_count_0_b85 σ else gd (inB (v1 - 10) 7) (j_count_0_b87 (σ.1 116 (v1 - 10).toNatClampNeg) σ)
def m_refuse_117_b16 (v1 : Int32) (σ : Sg) : Option (Int32 × Sg) :=
  some (-v1, σ)
def m_refuse_117 (v1 : Int32) (σ : Sg) : Option (Int32 × Sg) :=
  if 6 < v1 then m_refuse_117_b16 v1 σ else gd (inB v1 7) (gd (inB v1 7) (m_refuse_117_b16 v1 (si σ 120 v1.toNatClampNeg ((σ.1 120 v1.toNatClampNeg) + 1))))
def m_letter_117_b26 (σ : Sg) : Option (Int32 × Sg) :=
  bd (m_refuse_117 6 σ) fun r1 σ1 => some (r1, σ1)
def m_letter_117 (v1 : Int32) (σ : Sg) : Option (Int32 × Sg) :=
  if 0 ≤ v1 then if 255 < v1 then m_letter_117_b26 σ else if (σ.1 117 5) = 72 then m_letter_117_b26 σ else gd (inB (σ.1 117 5) 72) (some ((si (si σ 121 (σ.1 117 5).toNatClampNeg v1) 117 5 (((si σ 121 (σ.1 117 5).toNatClampNeg v1).1 117 5) + 1)).1 117 5, si (si σ 121 (σ.1 117 5).toNatClampNeg v1) 117 5 (((si σ 121 (σ.1 117 5).toNatClampNeg v1).1 117 5) + 1))) else bd (m_refuse_117 4 σ) fun r4 σ4 => some (r4, σ4)
def m_isIn_s_b18 (s0 : Int32) (σ : Sg) : Option (Int32 × Sg) :=
  gd (nbB s0) (some (s0, σ))
def m_isIn_s_b17 (σ : Sg) : Option (Int32 × Sg) :=
  m_isIn_s_b18 0 σ
def m_isIn_s (v0 : Int64) (v2 : Int64) (v4 : Int64) (σ : Sg) : Option (Int32 × Sg) :=
  if (lg_cmp v0 v2) < 0 then m_isIn_s_b17 σ else if 0 < (lg_cmp v0 v4) then m_isIn_s_b17 σ else m_isIn_s_b18 1 σ
def m_quantity_117_H54 (k54 : Int32 → Int32 → Sg → Option (Int32 × Sg)) (v2 : Int32) (v3 : Int32) (σ : Sg) : Option (Int32 × Sg) :=
  if 5 ≤ v3 then gd (inB (49 + v2) 139) (gd (inB (57 + v2) 139) (some (v2, si (si (si (si σ 118 (49 + v2).toNatClampNeg 0) 118 (57 + v2).toNatClampNeg 0) 118 0 (((si (si σ 118 (49 + v2).toNatClampNeg 0) 118 (57 + v2).toNatClampNeg 0).1 118 0) + 1)) 117 7 0))) else gd (inB ((9 + (5 * v2)) + v3) 139) (k54 v2 (v3 + 1) (si σ 118 ((9 + (5 * v2)) + v3).toNatClampNeg 0))
def m_quantity_117_L54 : Nat → Int32 → Int32 → Sg → Option (Int32 × Sg)
  | 0, _, _, _ => none
  | n + 1, v2, v3, σ => m_quantity_117_H54 (m_quantity_117_L54 n) v2 v3 σ
def m_quantity_117 (v1 : Int32) (σ : Sg) : Option (Int32 × Sg) :=
  bd (m_isIn_s v1.toInt64 0 5 σ) fun r1 σ1 => if r1 = 0 then bd (m_refuse_117 2 σ1) fun r5 σ5 => some (r5, σ5) else if (σ1.1 118 0) = 8 then bd (m_refuse_117 6 σ1) fun r3 σ3 => some (r3, σ3) else gd (inB (1 + (σ1.1 118 0)) 139) (m_quantity_117_L54 fu (σ1.1 118 0) 0 (si σ1 118 (1 + (σ1.1 118 0)).toNatClampNeg v1))
def m_changes_117_b105 (s1 : Int32) (s2 : Int32) (σ : Sg) : Option (Unit × Sg) :=
  gd (inB s1 100) (some ((), si (si σ 122 s1.toNatClampNeg s2) 117 7 (((si σ 122 s1.toNatClampNeg s2).1 117 7) + 1)))
def m_changes_117_b47 (v1 : Int32) (v2 : Int32) (σ : Sg) : Option (Unit × Sg) :=
  gd (inB (5 * (σ.1 117 7)) 100) (gd (inB v1 139) (gd (inB ((5 * (σ.1 117 7)) + 1) 100) (gd (inB ((5 * (σ.1 117 7)) + 2) 100) (if 0 ≤ v2 then gd (inB v2 139) (m_changes_117_b105 ((5 * (σ.1 117 7)) + 3) ((si (si (si σ 122 (5 * (σ.1 117 7)).toNatClampNeg v1) 122 ((5 * (σ.1 117 7)) + 1).toNatClampNeg ((si σ 122 (5 * (σ.1 117 7)).toNatClampNeg v1).1 118 v1.toNatClampNeg)) 122 ((5 * (σ.1 117 7)) + 2).toNatClampNeg v2).1 118 v2.toNatClampNeg) (si (si (si σ 122 (5 * (σ.1 117 7)).toNatClampNeg v1) 122 ((5 * (σ.1 117 7)) + 1).toNatClampNeg ((si σ 122 (5 * (σ.1 117 7)).toNatClampNeg v1).1 118 v1.toNatClampNeg)) 122 ((5 * (σ.1 117 7)) + 2).toNatClampNeg v2)) else m_changes_117_b105 ((5 * (σ.1 117 7)) + 3) 0 (si (si (si σ 122 (5 * (σ.1 117 7)).toNatClampNeg v1) 122 ((5 * (σ.1 117 7)) + 1).toNatClampNeg ((si σ 122 (5 * (σ.1 117 7)).toNatClampNeg v1).1 118 v1.toNatClampNeg)) 122 ((5 * (σ.1 117 7)) + 2).toNatClampNeg v2)))))
def m_changes_117_H11 (k11 : Int32 → Int32 → Int32 → Sg → Option (Unit × Sg)) (v1 : Int32) (v2 : Int32) (v3 : Int32) (σ : Sg) : Option (Unit × Sg) :=
  if 100 ≤ v3 then m_changes_117_b47 v1 v2 (si σ 117 7 ((σ.1 117 7) - 1)) else gd (inB v3 100) (gd (inB (v3 - 5) 100) (k11 v1 v2 (v3 + 1) (si σ 122 (v3 - 5).toNatClampNeg (σ.1 122 v3.toNatClampNeg))))
def m_changes_117_L11 : Nat → Int32 → Int32 → Int32 → Sg → Option (Unit × Sg)
  | 0, _, _, _, _ => none
  | n + 1, v1, v2, v3, σ => m_changes_117_H11 (m_changes_117_L11 n) v1 v2 v3 σ
def m_changes_117 (v1 : Int32) (v2 : Int32) (σ : Sg) : Option (Unit × Sg) :=
  if (σ.1 117 7) = 20 then m_changes_117_L11 fu v1 v2 5 σ else m_changes_117_b47 v1 v2 σ
def m_isOne_117 (v1 : Int32) (σ : Sg) : Option (Int32 × Sg) :=
  bd (m_isIn_s v1.toInt64 0 (((σ.1 118 0) - 1).toInt64) σ) fun r1 σ1 => gd (nbB r1) (some (r1, σ1))
def m_isUnit_s (v0 : Int32) (σ : Sg) : Option (Int32 × Sg) :=
  bd (m_isIn_s v0.toInt64 0 4 σ) fun r1 σ1 => gd (nbB r1) (some (r1, σ1))
def m_refuseFar_117 (v1 : Int32) (σ : Sg) : Option (Int32 × Sg) :=
  bd (m_refuse_117 v1 σ) fun r1 σ1 => some (1000000000 - r1, σ1)
def m_tell_117_b15 (σ : Sg) : Option (Int32 × Sg) :=
  bd (m_refuseFar_117 1 σ) fun r1 σ1 => some (r1, σ1)
def m_tell_117 (v1 : Int32) (v2 : Int32) (v3 : Int32) (σ : Sg) : Option (Int32 × Sg) :=
  bd (m_isOne_117 v1 σ) fun r1 σ1 => if r1 = 0 then m_tell_117_b15 σ1 else bd (m_isUnit_s v2 σ1) fun r2 σ2 => if r2 = 0 then m_tell_117_b15 σ2 else if (-9) ≤ v3 then if v3 ≤ 9 then gd (inB ((9 + (5 * v1)) + v2) 139) (bd (m_changes_117 ((9 + (5 * v1)) + v2) (-1) σ2) fun _ σ4 => gd (inB ((9 + (5 * v1)) + v2) 139) (some (σ2.1 118 ((9 + (5 * v1)) + v2).toNatClampNeg, si σ4 118 ((9 + (5 * v1)) + v2).toNatClampNeg v3))) else bd (m_refuseFar_117 6 σ2) fun r6 σ6 => some (r6, σ6) else bd (m_refuseFar_117 4 σ2) fun r8 σ8 => some (r8, σ8)
def m_turn_117 (v1 : Int32) (v2 : Int32) (σ : Sg) : Option (Int32 × Sg) :=
  bd (m_isOne_117 v1 σ) fun r1 σ1 => if r1 = 0 then bd (m_refuse_117 1 σ1) fun r8 σ8 => some (r8, σ8) else bd (m_isIn_s v2.toInt64 0 5 σ1) fun r2 σ2 => if r2 = 0 then bd (m_refuse_117 2 σ2) fun r6 σ6 => some (r6, σ6) else gd (inB (1 + v1) 139) (bd (m_changes_117 (1 + v1) (-1) σ2) fun _ σ4 => gd (inB (1 + v1) 139) (some (σ2.1 118 (1 + v1).toNatClampNeg, si σ4 118 (1 + v1).toNatClampNeg v2)))
def m_swapRows_117_b67 (σ : Sg) : Option (Unit × Sg) :=
  some ((), σ)
def m_swapRows_117_H2 (k2 : Int32 → Int32 → Int32 → Sg → Option (Unit × Sg)) (v1 : Int32) (v2 : Int32) (v3 : Int32) (σ : Sg) : Option (Unit × Sg) :=
  if 9 ≤ v3 then m_swapRows_117_b67 σ else if v1 = v2 then m_swapRows_117_b67 σ else gd (inB ((9 * v1) + v3) 45) (gd (inB ((9 * v2) + v3) 45) (gd (inB ((9 * v1) + v3) 45) (gd (inB ((9 * v2) + v3) 45) (k2 v1 v2 (v3 + 1) (sl (sl σ 123 ((9 * v1) + v3).toNatClampNeg (σ.2 123 ((9 * v2) + v3).toNatClampNeg)) 123 ((9 * v2) + v3).toNatClampNeg (σ.2 123 ((9 * v1) + v3).toNatClampNeg))))))
def m_swapRows_117_L2 : Nat → Int32 → Int32 → Int32 → Sg → Option (Unit × Sg)
  | 0, _, _, _, _ => none
  | n + 1, v1, v2, v3, σ => m_swapRows_117_H2 (m_swapRows_117_L2 n) v1 v2 v3 σ
def m_swapRows_117 (v1 : Int32) (v2 : Int32) (σ : Sg) : Option (Unit × Sg) :=
  m_swapRows_117_L2 fu v1 v2 0 σ
def m_clears_117_b173 (k5 : Int32 → Int32 → Int64 → Int32 → Sg → Option (Int64 × Sg)) (k79 : Int32 → Int32 → Int64 → Int32 → Int64 → Int32 → Sg → Option (Int64 × Sg)) (v1 : Int32) (v2 : Int32) (v3 : Int64) (v5 : Int32) (v7 : Int64) (v9 : Int32) (σ : Sg) : Option (Int64 × Sg) :=
  k79 v1 v2 v3 v5 v7 (v9 + 1) σ
def m_clears_117_H113 (k5 : Int32 → Int32 → Int64 → Int32 → Sg → Option (Int64 × Sg)) (k79 : Int32 → Int32 → Int64 → Int32 → Int64 → Int32 → Sg → Option (Int64 × Sg)) (k113 : Int32 → Int32 → Int64 → Int32 → Int64 → Int32 → Int64 → Int32 → Sg → Option (Int64 × Sg)) (v1 : Int32) (v2 : Int32) (v3 : Int64) (v5 : Int32) (v7 : Int64) (v9 : Int32) (v10 : Int64) (v12 : Int32) (σ : Sg) : Option (Int64 × Sg) :=
  if v2 ≤ v12 then m_clears_117_b173 k5 k79 v1 v2 v3 v5 v7 v9 σ else gd (inB ((9 * v9) + v12) 45) (gd (inB ((9 * v5) + v12) 45) (gd (neBL v3) (gd (inB ((9 * v9) + v12) 45) (k113 v1 v2 v3 v5 v7 v9 v10 (v12 + 1) (sl σ 123 ((9 * v9) + v12).toNatClampNeg ((((σ.2 123 ((9 * v9) + v12).toNatClampNeg) * v7) - (v10 * (σ.2 123 ((9 * v5) + v12).toNatClampNeg))) / v3))))))
def m_clears_117_L113 (k5 : Int32 → Int32 → Int64 → Int32 → Sg → Option (Int64 × Sg)) (k79 : Int32 → Int32 → Int64 → Int32 → Int64 → Int32 → Sg → Option (Int64 × Sg)) : Nat → Int32 → Int32 → Int64 → Int32 → Int64 → Int32 → Int64 → Int32 → Sg → Option (Int64 × Sg)
  | 0, _, _, _, _, _, _, _, _, _ => none
  | n + 1, v1, v2, v3, v5, v7, v9, v10, v12, σ => m_clears_117_H113 k5 k79 (m_clears_117_L113 k5 k79 n) v1 v2 v3 v5 v7 v9 v10 v12 σ
def m_clears_117_H79 (k5 : Int32 → Int32 → Int64 → Int32 → Sg → Option (Int64 × Sg)) (k79 : Int32 → Int32 → Int64 → Int32 → Int64 → Int32 → Sg → Option (Int64 × Sg)) (v1 : Int32) (v2 : Int32) (v3 : Int64) (v5 : Int32) (v7 : Int64) (v9 : Int32) (σ : Sg) : Option (Int64 × Sg) :=
  if 5 ≤ v9 then k5 v1 v2 v7 (v5 + 1) σ else if v9 = v5 then m_clears_117_b173 k5 k79 v1 v2 v3 v5 v7 v9 σ else gd (inB ((9 * v9) + v5) 45) (m_clears_117_L113 k5 k79 fu v1 v2 v3 v5 v7 v9 (σ.2 123 ((9 * v9) + v5).toNatClampNeg) 0 σ)
def m_clears_117_L79 (k5 : Int32 → Int32 → Int64 → Int32 → Sg → Option (Int64 × Sg)) : Nat → Int32 → Int32 → Int64 → Int32 → Int64 → Int32 → Sg → Option (Int64 × Sg)
  | 0, _, _, _, _, _, _, _ => none
  | n + 1, v1, v2, v3, v5, v7, v9, σ => m_clears_117_H79 k5 (m_clears_117_L79 k5 n) v1 v2 v3 v5 v7 v9 σ
def m_clears_117_b45 (k5 : Int32 → Int32 → Int64 → Int32 → Sg → Option (Int64 × Sg)) (v1 : Int32) (v2 : Int32) (v3 : Int64) (v5 : Int32) (v6 : Int32) (σ : Sg) : Option (Int64 × Sg) :=
  if v6 < 5 then bd (m_swapRows_117 v5 v6 σ) fun _ σ1 => gd (inB ((9 * v5) + v5) 45) (m_clears_117_L79 k5 fu v1 v2 v3 v5 (σ1.2 123 ((9 * v5) + v5).toNatClampNeg) 0 σ1) else some (0, σ)
def m_clears_117_H15 (k5 : Int32 → Int32 → Int64 → Int32 → Sg → Option (Int64 × Sg)) (k15 : Int32 → Int32 → Int64 → Int32 → Int32 → Sg → Option (Int64 × Sg)) (v1 : Int32) (v2 : Int32) (v3 : Int64) (v5 : Int32) (v6 : Int32) (σ : Sg) : Option (Int64 × Sg) :=
  if 5 ≤ v6 then m_clears_117_b45 k5 v1 v2 v3 v5 v6 σ else gd (inB ((9 * v6) + v5) 45) (if (lg_cmp (σ.2 123 ((9 * v6) + v5).toNatClampNeg) 0) = 0 then k15 v1 v2 v3 v5 (v6 + 1) σ else m_clears_117_b45 k5 v1 v2 v3 v5 v6 σ)
def m_clears_117_L15 (k5 : Int32 → Int32 → Int64 → Int32 → Sg → Option (Int64 × Sg)) : Nat → Int32 → Int32 → Int64 → Int32 → Int32 → Sg → Option (Int64 × Sg)
  | 0, _, _, _, _, _, _ => none
  | n + 1, v1, v2, v3, v5, v6, σ => m_clears_117_H15 k5 (m_clears_117_L15 k5 n) v1 v2 v3 v5 v6 σ
def m_clears_117_H5 (k5 : Int32 → Int32 → Int64 → Int32 → Sg → Option (Int64 × Sg)) (v1 : Int32) (v2 : Int32) (v3 : Int64) (v5 : Int32) (σ : Sg) : Option (Int64 × Sg) :=
  if v1 ≤ v5 then some (v3, σ) else m_clears_117_L15 k5 fu v1 v2 v3 v5 v5 σ
def m_clears_117_L5 : Nat → Int32 → Int32 → Int64 → Int32 → Sg → Option (Int64 × Sg)
  | 0, _, _, _, _, _ => none
  | n + 1, v1, v2, v3, v5, σ => m_clears_117_H5 (m_clears_117_L5 n) v1 v2 v3 v5 σ
def m_clears_117 (v1 : Int32) (v2 : Int32) (σ : Sg) : Option (Int64 × Sg) :=
  m_clears_117_L5 fu v1 v2 1 0 σ
def m_common_s_H28 (k28 : Int64 → Int64 → Sg → Option (Int64 × Sg)) (v4 : Int64) (v6 : Int64) (σ : Sg) : Option (Int64 × Sg) :=
  if (lg_cmp v6 0) = 0 then some (v4, σ) else gd (neBL v6) (k28 v6 (lrm v4 v6) σ)
def m_common_s_L28 : Nat → Int64 → Int64 → Sg → Option (Int64 × Sg)
  | 0, _, _, _ => none
  | n + 1, v4, v6, σ => m_common_s_H28 (m_common_s_L28 n) v4 v6 σ
def m_common_s_b26 (v4 : Int64) (s0 : Int64) (σ : Sg) : Option (Int64 × Sg) :=
  m_common_s_L28 fu v4 s0 σ
def m_common_s_b12 (v2 : Int64) (s0 : Int64) (σ : Sg) : Option (Int64 × Sg) :=
  if 0 ≤ (lg_cmp v2 0) then m_common_s_b26 s0 v2 σ else m_common_s_b26 s0 (-v2) σ
def m_common_s (v0 : Int64) (v2 : Int64) (σ : Sg) : Option (Int64 × Sg) :=
  if 0 ≤ (lg_cmp v0 0) then m_common_s_b12 v2 v0 σ else m_common_s_b12 v2 (-v0) σ
def m_has_s_b14 (s0 : Int32) (σ : Sg) : Option (Int32 × Sg) :=
  gd (nbB s0) (some (s0, σ))
def m_has_s (v0 : Int32) (v1 : Int32) (σ : Sg) : Option (Int32 × Sg) :=
  if ((v0 >>> (v1 &&& 31)) &&& 1) = 1 then m_has_s_b14 1 σ else m_has_s_b14 0 σ
def m_powerOf_117_b68 (s0 : Int32) (σ : Sg) : Option (Int32 × Sg) :=
  some (s0, σ)
def m_powerOf_117_b81 (s0 : Int32) (σ : Sg) : Option (Int32 × Sg) :=
  some (s0, σ)
def m_powerOf_117_b105 (s0 : Int32) (σ : Sg) : Option (Int32 × Sg) :=
  some (s0, σ)
def m_powerOf_117_b124 (s0 : Int32) (σ : Sg) : Option (Int32 × Sg) :=
  some (s0, σ)
def m_powerOf_117 (v1 : Int32) (v2 : Int32) (σ : Sg) : Option (Int32 × Sg) :=
  gd (inB ((9 + (5 * v1)) + v2) 139) (gd (inB (1 + v1) 139) (if (σ.1 118 (1 + v1).toNatClampNeg) = 1 then if v2 = 2 then m_powerOf_117_b68 ((σ.1 118 ((9 + (5 * v1)) + v2).toNatClampNeg) - 1) σ else m_powerOf_117_b68 (σ.1 118 ((9 + (5 * v1)) + v2).toNatClampNeg) σ else if (σ.1 118 (1 + v1).toNatClampNeg) = 2 then if v2 = 1 then m_powerOf_117_b81 ((σ.1 118 ((9 + (5 * v1)) + v2).toNatClampNeg) - 1) σ else m_powerOf_117_b81 (σ.1 118 ((9 + (5 * v1)) + v2).toNatClampNeg) σ else if (σ.1 118 (1 + v1).toNatClampNeg) = 3 then if v2 = 1 then m_powerOf_117_b105 ((σ.1 118 ((9 + (5 * v1)) + v2).toNatClampNeg) - 2) σ else if v2 = 2 then m_powerOf_117_b105 ((σ.1 118 ((9 + (5 * v1)) + v2).toNatClampNeg) - 1) σ else m_powerOf_117_b105 (σ.1 118 ((9 + (5 * v1)) + v2).toNatClampNeg) σ else if (σ.1 118 (1 + v1).toNatClampNeg) = 4 then some (0, σ) else if (σ.1 118 (1 + v1).toNatClampNeg) = 5 then if v2 = 1 then m_powerOf_117_b124 ((2 * (σ.1 118 ((9 + (5 * v1)) + v2).toNatClampNeg)) - 2) σ else m_powerOf_117_b124 (2 * (σ.1 118 ((9 + (5 * v1)) + v2).toNatClampNeg)) σ else some (σ.1 118 ((9 + (5 * v1)) + v2).toNatClampNeg, σ)))
def m_lays2_117_b112 (v3 : Int32) (σ : Sg) : Option (Int32 × Sg) :=
  some (v3, σ)
def m_lays2_117_H76 (k76 : Int32 → Int32 → Int32 → Sg → Option (Int32 × Sg)) (v2 : Int32) (v3 : Int32) (v4 : Int32) (σ : Sg) : Option (Int32 × Sg) :=
  if 5 ≤ v4 then m_lays2_117_b112 v3 σ else if v2 < 0 then m_lays2_117_b112 v3 σ else bd (m_powerOf_117 v2 v4 σ) fun r1 σ1 => gd (inB ((9 * v4) + v3) 45) (k76 v2 v3 (v4 + 1) (sl σ1 123 ((9 * v4) + v3).toNatClampNeg r1.toInt64))
def m_lays2_117_L76 : Nat → Int32 → Int32 → Int32 → Sg → Option (Int32 × Sg)
  | 0, _, _, _, _ => none
  | n + 1, v2, v3, v4, σ => m_lays2_117_H76 (m_lays2_117_L76 n) v2 v3 v4 σ
def m_lays2_117_b67 (k5 : Int32 → Int32 → Int32 → Int32 → Sg → Option (Int32 × Sg)) (v1 : Int32) (v2 : Int32) (v3 : Int32) (v4 : Int32) (σ : Sg) : Option (Int32 × Sg) :=
  k5 v1 v2 v3 (v4 + 1) σ
def m_lays2_117_H31 (k5 : Int32 → Int32 → Int32 → Int32 → Sg → Option (Int32 × Sg)) (k31 : Int32 → Int32 → Int32 → Int32 → Int32 → Sg → Option (Int32 × Sg)) (v1 : Int32) (v2 : Int32) (v3 : Int32) (v4 : Int32) (v5 : Int32) (σ : Sg) : Option (Int32 × Sg) :=
  if 5 ≤ v5 then m_lays2_117_b67 k5 v1 v2 (v3 + 1) v4 σ else bd (m_powerOf_117 v4 v5 σ) fun r1 σ1 => gd (inB ((9 * v5) + v3) 45) (k31 v1 v2 v3 v4 (v5 + 1) (sl σ1 123 ((9 * v5) + v3).toNatClampNeg r1.toInt64))
def m_lays2_117_L31 (k5 : Int32 → Int32 → Int32 → Int32 → Sg → Option (Int32 × Sg)) : Nat → Int32 → Int32 → Int32 → Int32 → Int32 → Sg → Option (Int32 × Sg)
  | 0, _, _, _, _, _, _ => none
  | n + 1, v1, v2, v3, v4, v5, σ => m_lays2_117_H31 k5 (m_lays2_117_L31 k5 n) v1 v2 v3 v4 v5 σ
def m_lays2_117_H5 (k5 : Int32 → Int32 → Int32 → Int32 → Sg → Option (Int32 × Sg)) (v1 : Int32) (v2 : Int32) (v3 : Int32) (v4 : Int32) (σ : Sg) : Option (Int32 × Sg) :=
  if (σ.1 118 0) ≤ v4 then m_lays2_117_L76 fu v2 v3 0 σ else bd (m_has_s v1 v4 σ) fun r1 σ1 => if r1 = 0 then m_lays2_117_b67 k5 v1 v2 v3 v4 σ1 else m_lays2_117_L31 k5 fu v1 v2 v3 v4 0 σ1
def m_lays2_117_L5 : Nat → Int32 → Int32 → Int32 → Int32 → Sg → Option (Int32 × Sg)
  | 0, _, _, _, _, _ => none
  | n + 1, v1, v2, v3, v4, σ => m_lays2_117_H5 (m_lays2_117_L5 n) v1 v2 v3 v4 σ
def m_lays2_117 (v1 : Int32) (v2 : Int32) (σ : Sg) : Option (Int32 × Sg) :=
  m_lays2_117_L5 fu v1 v2 0 0 σ
def m_isHad_117_b175 (k112 : Int32 → Int32 → Int32 → Int64 → Int64 → Int32 → Int32 → Sg → Option (Int32 × Sg)) (v1 : Int32) (v2 : Int32) (v3 : Int32) (v4 : Int64) (v6 : Int64) (v9 : Int32) (s0 : Int32) (s1 : Int32) (σ : Sg) : Option (Int32 × Sg) :=
  k112 v1 v2 v3 v4 v6 (s0 + s1) (v9 + 1) σ
def m_isHad_117_b158 (k112 : Int32 → Int32 → Int32 → Int64 → Int64 → Int32 → Int32 → Sg → Option (Int32 × Sg)) (v1 : Int32) (v2 : Int32) (v3 : Int32) (v4 : Int64) (v6 : Int64) (v8 : Int32) (v9 : Int32) (s1 : Int32) (s2 : Int64) (σ : Sg) : Option (Int32 × Sg) :=
  gd (inB s1 8) (bd (m_has_s v1 v9 (sl σ 124 s1.toNatClampNeg s2)) fun r2 σ2 => if r2 = 0 then m_isHad_117_b175 k112 v1 v2 v3 v4 v6 v9 v8 0 σ2 else m_isHad_117_b175 k112 v1 v2 v3 v4 v6 v9 v8 1 σ2)
def m_isHad_117_H112 (k112 : Int32 → Int32 → Int32 → Int64 → Int64 → Int32 → Int32 → Sg → Option (Int32 × Sg)) (v1 : Int32) (v2 : Int32) (v3 : Int32) (v4 : Int64) (v6 : Int64) (v8 : Int32) (v9 : Int32) (σ : Sg) : Option (Int32 × Sg) :=
  if (σ.1 118 0) ≤ v9 then gd (neBL v6) (gd (inB v2 8) (some (1, sl σ 124 v2.toNatClampNeg (v4 / v6)))) else bd (m_has_s v1 v9 σ) fun r3 σ3 => if r3 = 0 then m_isHad_117_b158 k112 v1 v2 v3 v4 v6 v8 v9 v9 0 σ3 else gd (inB ((9 * v8) + v3) 45) (gd (neBL v6) (m_isHad_117_b158 k112 v1 v2 v3 v4 v6 v8 v9 v9 ((-(σ3.2 123 ((9 * v8) + v3).toNatClampNeg)) / v6) σ3))
def m_isHad_117_L112 : Nat → Int32 → Int32 → Int32 → Int64 → Int64 → Int32 → Int32 → Sg → Option (Int32 × Sg)
  | 0, _, _, _, _, _, _, _, _ => none
  | n + 1, v1, v2, v3, v4, v6, v8, v9, σ => m_isHad_117_H112 (m_isHad_117_L112 n) v1 v2 v3 v4 v6 v8 v9 σ
def m_isHad_117_b104 (v1 : Int32) (v2 : Int32) (v3 : Int32) (v4 : Int64) (s0 : Int64) (σ : Sg) : Option (Int32 × Sg) :=
  m_isHad_117_L112 fu v1 v2 v3 v4 s0 0 0 σ
def m_isHad_117_H58 (k58 : Int32 → Int32 → Int32 → Int64 → Int64 → Int32 → Sg → Option (Int32 × Sg)) (v1 : Int32) (v2 : Int32) (v3 : Int32) (v4 : Int64) (v6 : Int64) (v8 : Int32) (σ : Sg) : Option (Int32 × Sg) :=
  if v3 ≤ v8 then if 0 ≤ (lg_cmp v4 0) then m_isHad_117_b104 v1 v2 v3 v4 v6 σ else m_isHad_117_b104 v1 v2 v3 v4 (-v6) σ else gd (inB ((9 * v8) + v3) 45) (bd (m_common_s v6 (σ.2 123 ((9 * v8) + v3).toNatClampNeg) σ) fun r3 σ3 => k58 v1 v2 v3 v4 r3 (v8 + 1) σ3)
def m_isHad_117_L58 : Nat → Int32 → Int32 → Int32 → Int64 → Int64 → Int32 → Sg → Option (Int32 × Sg)
  | 0, _, _, _, _, _, _, _ => none
  | n + 1, v1, v2, v3, v4, v6, v8, σ => m_isHad_117_H58 (m_isHad_117_L58 n) v1 v2 v3 v4 v6 v8 σ
def m_isHad_117_H20 (k20 : Int32 → Int32 → Int32 → Int64 → Int32 → Sg → Option (Int32 × Sg)) (v1 : Int32) (v2 : Int32) (v3 : Int32) (v4 : Int64) (v6 : Int32) (σ : Sg) : Option (Int32 × Sg) :=
  if 5 ≤ v6 then m_isHad_117_L58 fu v1 v2 v3 v4 v4 0 σ else gd (inB ((9 * v6) + v3) 45) (if (lg_cmp (σ.2 123 ((9 * v6) + v3).toNatClampNeg) 0) = 0 then k20 v1 v2 v3 v4 (v6 + 1) σ else some (0, σ))
def m_isHad_117_L20 : Nat → Int32 → Int32 → Int32 → Int64 → Int32 → Sg → Option (Int32 × Sg)
  | 0, _, _, _, _, _, _ => none
  | n + 1, v1, v2, v3, v4, v6, σ => m_isHad_117_H20 (m_isHad_117_L20 n) v1 v2 v3 v4 v6 σ
def m_isHad_117 (v1 : Int32) (v2 : Int32) (σ : Sg) : Option (Int32 × Sg) :=
  bd (m_lays2_117 v1 v2 σ) fun r1 σ1 => bd (m_clears_117 r1 (r1 + 1) σ1) fun r2 σ2 => m_isHad_117_L20 fu v1 v2 r1 r2 r1 σ2
def m_firm_117_b31 (k4 : Int32 → Int32 → Sg → Option (Int32 × Sg)) (v2 : Int32) (s0 : Int32) (s1 : Int32) (σ : Sg) : Option (Int32 × Sg) :=
  k4 (s0 ||| s1) (v2 + 1) σ
def m_firm_117_H4 (k4 : Int32 → Int32 → Sg → Option (Int32 × Sg)) (v1 : Int32) (v2 : Int32) (σ : Sg) : Option (Int32 × Sg) :=
  if (σ.1 118 0) ≤ v2 then some (v1, σ) else bd (m_isHad_117 v1 v2 σ) fun r1 σ1 => if r1 = 0 then m_firm_117_b31 k4 v2 v1 ((1 : Int32) <<< (v2 &&& 31)) σ1 else m_firm_117_b31 k4 v2 v1 0 σ1
def m_firm_117_L4 : Nat → Int32 → Int32 → Sg → Option (Int32 × Sg)
  | 0, _, _, _ => none
  | n + 1, v1, v2, σ => m_firm_117_H4 (m_firm_117_L4 n) v1 v2 σ
def m_firm_117 (σ : Sg) : Option (Int32 × Sg) :=
  m_firm_117_L4 fu 0 0 σ
def m_isPure_117_b24 (k4 : Int32 → Int32 → Int32 → Sg → Option (Int32 × Sg)) (v1 : Int32) (v3 : Int32) (s0 : Int32) (s1 : Int32) (σ : Sg) : Option (Int32 × Sg) :=
  k4 v1 (s0 &&& s1) (v3 + 1) σ
def m_isPure_117_H4 (k4 : Int32 → Int32 → Int32 → Sg → Option (Int32 × Sg)) (v1 : Int32) (v2 : Int32) (v3 : Int32) (σ : Sg) : Option (Int32 × Sg) :=
  if 5 ≤ v3 then gd (nbB v2) (some (v2, σ)) else bd (m_powerOf_117 v1 v3 σ) fun r1 σ1 => if r1 = 0 then m_isPure_117_b24 k4 v1 v3 v2 1 σ1 else m_isPure_117_b24 k4 v1 v3 v2 0 σ1
def m_isPure_117_L4 : Nat → Int32 → Int32 → Int32 → Sg → Option (Int32 × Sg)
  | 0, _, _, _, _ => none
  | n + 1, v1, v2, v3, σ => m_isPure_117_H4 (m_isPure_117_L4 n) v1 v2 v3 σ
def m_isPure_117 (v1 : Int32) (σ : Sg) : Option (Int32 × Sg) :=
  m_isPure_117_L4 fu v1 1 0 σ
def m_of_117_b130 (s0 : Int32) (σ : Sg) : Option (Int32 × Sg) :=
  some (s0, σ)
def m_of_117_b67 (s0 : Int32) (σ : Sg) : Option (Int32 × Sg) :=
  some (s0, σ)
def m_of_117_b48 (s0 : Int32) (σ : Sg) : Option (Int32 × Sg) :=
  some (s0, σ)
def m_of_117 (v1 : Int32) (v2 : Int32) (σ : Sg) : Option (Int32 × Sg) :=
  bd (m_isOne_117 v1 σ) fun r1 σ1 => if r1 = 0 then bd (m_refuseFar_117 1 σ1) fun r18 σ18 => some (r18, σ18) else if v2 = 0 then gd (inB (1 + v1) 139) (some (σ1.1 118 (1 + v1).toNatClampNeg, σ1)) else if v2 = 1 then bd (m_firm_117 σ1) fun r12 σ12 => bd (m_has_s r12 v1 σ12) fun r13 σ13 => if r13 = 0 then m_of_117_b48 1 σ13 else m_of_117_b48 0 σ13 else if v2 = 2 then bd (m_isPure_117 v1 σ1) fun r9 σ9 => if r9 = 0 then m_of_117_b67 0 σ9 else m_of_117_b67 1 σ9 else bd (m_isIn_s v2.toInt64 10 14 σ1) fun r2 σ2 => if r2 = 0 then bd (m_isIn_s v2.toInt64 20 24 σ2) fun r3 σ3 => if r3 = 0 then bd (m_refuseFar_117 2 σ3) fun r4 σ4 => m_of_117_b130 r4 σ4 else bd (m_powerOf_117 v1 (v2 - 20) σ3) fun r5 σ5 => m_of_117_b130 r5 σ5 else gd (inB (((9 + (5 * v1)) + v2) - 10) 139) (some (σ2.1 118 (((9 + (5 * v1)) + v2) - 10).toNatClampNeg, σ2))
def m_isLike_117_b34 (k5 : Int32 → Int32 → Int32 → Int32 → Sg → Option (Int32 × Sg)) (v1 : Int32) (v2 : Int32) (v4 : Int32) (s0 : Int32) (s1 : Int32) (σ : Sg) : Option (Int32 × Sg) :=
  k5 v1 v2 (s0 &&& s1) (v4 + 1) σ
def m_isLike_117_H5 (k5 : Int32 → Int32 → Int32 → Int32 → Sg → Option (Int32 × Sg)) (v1 : Int32) (v2 : Int32) (v3 : Int32) (v4 : Int32) (σ : Sg) : Option (Int32 × Sg) :=
  if 5 ≤ v4 then gd (nbB v3) (some (v3, σ)) else bd (m_powerOf_117 v1 v4 σ) fun r1 σ1 => bd (m_powerOf_117 v2 v4 σ1) fun r2 σ2 => if r1 = r2 then m_isLike_117_b34 k5 v1 v2 v4 v3 1 σ2 else m_isLike_117_b34 k5 v1 v2 v4 v3 0 σ2
def m_isLike_117_L5 : Nat → Int32 → Int32 → Int32 → Int32 → Sg → Option (Int32 × Sg)
  | 0, _, _, _, _, _ => none
  | n + 1, v1, v2, v3, v4, σ => m_isLike_117_H5 (m_isLike_117_L5 n) v1 v2 v3 v4 σ
def m_isLike_117 (v1 : Int32) (v2 : Int32) (σ : Sg) : Option (Int32 × Sg) :=
  m_isLike_117_L5 fu v1 v2 1 0 σ
def m_twinOf_117_b28 (k2 : Int32 → Int32 → Sg → Option (Int32 × Sg)) (v1 : Int32) (v2 : Int32) (σ : Sg) : Option (Int32 × Sg) :=
  k2 v1 (v2 + 1) σ
def m_twinOf_117_H2 (k2 : Int32 → Int32 → Sg → Option (Int32 × Sg)) (v1 : Int32) (v2 : Int32) (σ : Sg) : Option (Int32 × Sg) :=
  if (σ.1 118 0) ≤ v2 then some ((-9), σ) else if v2 = v1 then m_twinOf_117_b28 k2 v1 v2 σ else bd (m_isLike_117 v2 v1 σ) fun r1 σ1 => if r1 = 0 then m_twinOf_117_b28 k2 v1 v2 σ1 else some (v2, σ1)
def m_twinOf_117_L2 : Nat → Int32 → Int32 → Sg → Option (Int32 × Sg)
  | 0, _, _, _ => none
  | n + 1, v1, v2, σ => m_twinOf_117_H2 (m_twinOf_117_L2 n) v1 v2 σ
def m_twinOf_117 (v1 : Int32) (σ : Sg) : Option (Int32 × Sg) :=
  m_twinOf_117_L2 fu v1 0 σ
def m_twin_117_b21 (s0 : Int32) (σ : Sg) : Option (Int32 × Sg) :=
  some (s0, σ)
def m_twin_117 (v1 : Int32) (σ : Sg) : Option (Int32 × Sg) :=
  bd (m_isOne_117 v1 σ) fun r1 σ1 => if r1 = 0 then bd (m_refuse_117 1 σ1) fun r2 σ2 => m_twin_117_b21 r2 σ2 else bd (m_twinOf_117 v1 σ1) fun r3 σ3 => m_twin_117_b21 r3 σ3
def m_isUnder_s_b34 (s0 : Int32) (σ : Sg) : Option (Int32 × Sg) :=
  gd (nbB s0) (some (s0, σ))
def m_isUnder_s_b29 (σ : Sg) : Option (Int32 × Sg) :=
  m_isUnder_s_b34 1 σ
def m_isUnder_s_b33 (σ : Sg) : Option (Int32 × Sg) :=
  m_isUnder_s_b34 0 σ
def m_isUnder_s_b19 (v0 : Int32) (v1 : Int32) (σ : Sg) : Option (Int32 × Sg) :=
  if v0 = 5 then if v1 = 2 then m_isUnder_s_b29 σ else m_isUnder_s_b33 σ else m_isUnder_s_b33 σ
def m_isUnder_s (v0 : Int32) (v1 : Int32) (σ : Sg) : Option (Int32 × Sg) :=
  if v1 = 0 then m_isUnder_s_b29 σ else if v0 = v1 then m_isUnder_s_b29 σ else if v0 = 3 then if v1 = 1 then m_isUnder_s_b29 σ else m_isUnder_s_b19 v0 v1 σ else m_isUnder_s_b19 v0 v1 σ
def m_taken_117_b64 (s0 : Int32) (σ : Sg) : Option (Int32 × Sg) :=
  some (s0, σ)
def m_taken_117 (v1 : Int32) (v2 : Int32) (σ : Sg) : Option (Int32 × Sg) :=
  bd (m_isOne_117 v1 σ) fun r1 σ1 => if r1 = 0 then bd (m_refuse_117 1 σ1) fun r10 σ10 => some (r10, σ10) else bd (m_isIn_s v2.toInt64 0 5 σ1) fun r2 σ2 => if r2 = 0 then bd (m_refuse_117 2 σ2) fun r8 σ8 => some (r8, σ8) else gd (inB (1 + v1) 139) (bd (m_isUnder_s (σ2.1 118 (1 + v1).toNatClampNeg) v2 σ2) fun r4 σ4 => if r4 = 0 then bd (m_refuse_117 16 σ4) fun r5 σ5 => m_taken_117_b64 r5 σ5 else gd (inB (1 + v1) 139) (m_taken_117_b64 (σ4.1 118 (1 + v1).toNatClampNeg) σ4))
def m_bits_s_H4 (k4 : Int32 → Int32 → Sg → Option (Int32 × Sg)) (v1 : Int32) (v2 : Int32) (σ : Sg) : Option (Int32 × Sg) :=
  if v2 = 0 then some (v1, σ) else k4 (v1 + 1) (v2 &&& (v2 - 1)) σ
def m_bits_s_L4 : Nat → Int32 → Int32 → Sg → Option (Int32 × Sg)
  | 0, _, _, _ => none
  | n + 1, v1, v2, σ => m_bits_s_H4 (m_bits_s_L4 n) v1 v2 σ
def m_bits_s (v0 : Int32) (σ : Sg) : Option (Int32 × Sg) :=
  m_bits_s_L4 fu 0 v0 σ
def m_different_117_b37 (k4 : Int32 → Int32 → Sg → Option (Int32 × Sg)) (v2 : Int32) (s0 : Int32) (s1 : Int32) (σ : Sg) : Option (Int32 × Sg) :=
  k4 (s0 + s1) (v2 + 1) σ
def m_different_117_b32 (k4 : Int32 → Int32 → Sg → Option (Int32 × Sg)) (v2 : Int32) (s0 : Int32) (σ : Sg) : Option (Int32 × Sg) :=
  m_different_117_b37 k4 v2 s0 1 σ
def m_different_117_H4 (k4 : Int32 → Int32 → Sg → Option (Int32 × Sg)) (v1 : Int32) (v2 : Int32) (σ : Sg) : Option (Int32 × Sg) :=
  if (σ.1 118 0) ≤ v2 then some (v1, σ) else bd (m_twinOf_117 v2 σ) fun r1 σ1 => if r1 = (-9) then m_different_117_b32 k4 v2 v1 σ1 else if r1 ≤ v2 then m_different_117_b37 k4 v2 v1 0 σ1 else m_different_117_b32 k4 v2 v1 σ1
def m_different_117_L4 : Nat → Int32 → Int32 → Sg → Option (Int32 × Sg)
  | 0, _, _, _ => none
  | n + 1, v1, v2, σ => m_different_117_H4 (m_different_117_L4 n) v1 v2 σ
def m_different_117 (σ : Sg) : Option (Int32 × Sg) :=
  m_different_117_L4 fu 0 0 σ
def m_loose_117 (σ : Sg) : Option (Int32 × Sg) :=
  bd (m_firm_117 σ) fun r1 σ1 => some ((((1 : Int32) <<< ((σ.1 118 0) &&& 31)) - 1) &&& (r1 ^^^ (-1)), σ1)
def m_rank_117 (v1 : Int32) (σ : Sg) : Option (Int32 × Sg) :=
  if v1 = 0 then bd (m_firm_117 σ) fun r2 σ2 => bd (m_bits_s r2 σ2) fun r3 σ3 => some (r3, σ3) else if v1 = 1 then bd (m_loose_117 σ) fun r5 σ5 => bd (m_bits_s r5 σ5) fun r6 σ6 => some (r6, σ6) else if v1 = 2 then bd (m_loose_117 σ) fun r8 σ8 => some (r8, σ8) else if v1 = 3 then bd (m_different_117 σ) fun r10 σ10 => some (r10, σ10) else bd (m_refuse_117 2 σ) fun r11 σ11 => some (r11, σ11)
def m_groups_117 (v1 : Int32) (σ : Sg) : Option (Unit × Sg) :=
  bd (m_firm_117 σ) fun r1 σ1 => bd (m_isHad_117 (r1 &&& (((1 : Int32) <<< (v1 &&& 31)) - 1)) v1 σ1) fun r2 σ2 => some ((), σ2)
def m_ownOf_117_b50 (σ : Sg) : Option (Int32 × Sg) :=
  some ((-1), σ)
def m_ownOf_117_b44 (k10 : Int32 → Int32 → Int32 → Int32 → Sg → Option (Int32 × Sg)) (v1 : Int32) (v2 : Int32) (v3 : Int32) (v4 : Int32) (σ : Sg) : Option (Int32 × Sg) :=
  k10 v1 v2 v3 (v4 + 1) σ
def m_ownOf_117_H10 (k10 : Int32 → Int32 → Int32 → Int32 → Sg → Option (Int32 × Sg)) (v1 : Int32) (v2 : Int32) (v3 : Int32) (v4 : Int32) (σ : Sg) : Option (Int32 × Sg) :=
  if (σ.1 118 0) ≤ v4 then m_ownOf_117_b50 σ else if v1 < 0 then m_ownOf_117_b50 σ else bd (m_has_s v3 v4 σ) fun r1 σ1 => if r1 = 0 then m_ownOf_117_b44 k10 v1 v2 v3 v4 σ1 else if v2 = 0 then some (v4, σ1) else m_ownOf_117_b44 k10 v1 (v2 + (-1)) v3 v4 σ1
def m_ownOf_117_L10 : Nat → Int32 → Int32 → Int32 → Int32 → Sg → Option (Int32 × Sg)
  | 0, _, _, _, _, _ => none
  | n + 1, v1, v2, v3, v4, σ => m_ownOf_117_H10 (m_ownOf_117_L10 n) v1 v2 v3 v4 σ
def m_ownOf_117 (v1 : Int32) (σ : Sg) : Option (Int32 × Sg) :=
  bd (m_loose_117 σ) fun r1 σ1 => m_ownOf_117_L10 fu v1 v1 r1 0 σ1
def m_group_117_b18 (σ : Sg) : Option (Int32 × Sg) :=
  bd (m_refuseFar_117 1 σ) fun r1 σ1 => some (r1, σ1)
def m_group_117 (v1 : Int32) (v2 : Int32) (σ : Sg) : Option (Int32 × Sg) :=
  bd (m_ownOf_117 v1 σ) fun r1 σ1 => if r1 < 0 then m_group_117_b18 σ1 else bd (m_isOne_117 v2 σ1) fun r2 σ2 => if r2 = 0 then m_group_117_b18 σ2 else bd (m_groups_117 r1 σ2) fun _ σ3 => gd (inB v2 8) (some ((σ3.2 124 v2.toNatClampNeg).toInt32, σ3))
def m_isList_s (v0 : Int32) (σ : Sg) : Option (Int32 × Sg) :=
  bd (m_isIn_s v0.toInt64 0 2 σ) fun r1 σ1 => gd (nbB r1) (some (r1, σ1))
def m_isToldPure_117_b59 (k4 : Int32 → Int32 → Sg → Option (Int32 × Sg)) (v2 : Int32) (s0 : Int32) (s1 : Int32) (σ : Sg) : Option (Int32 × Sg) :=
  k4 (s0 &&& s1) (v2 + 1) σ
def m_isToldPure_117_H14 (k4 : Int32 → Int32 → Sg → Option (Int32 × Sg)) (k14 : Int32 → Int32 → Int32 → Int32 → Sg → Option (Int32 × Sg)) (v1 : Int32) (v2 : Int32) (v3 : Int32) (v4 : Int32) (σ : Sg) : Option (Int32 × Sg) :=
  if (σ.1 118 0) ≤ v4 then if v3 = 0 then m_isToldPure_117_b59 k4 v2 v1 1 σ else m_isToldPure_117_b59 k4 v2 v1 0 σ else gd (inB v4 8) (bd (m_powerOf_117 v4 v2 σ) fun r3 σ3 => k14 v1 v2 (v3 + ((σ.1 128 v4.toNatClampNeg) * r3)) (v4 + 1) σ3)
def m_isToldPure_117_L14 (k4 : Int32 → Int32 → Sg → Option (Int32 × Sg)) : Nat → Int32 → Int32 → Int32 → Int32 → Sg → Option (Int32 × Sg)
  | 0, _, _, _, _, _ => none
  | n + 1, v1, v2, v3, v4, σ => m_isToldPure_117_H14 k4 (m_isToldPure_117_L14 k4 n) v1 v2 v3 v4 σ
def m_isToldPure_117_H4 (k4 : Int32 → Int32 → Sg → Option (Int32 × Sg)) (v1 : Int32) (v2 : Int32) (σ : Sg) : Option (Int32 × Sg) :=
  if 5 ≤ v2 then gd (nbB v1) (some (v1, σ)) else m_isToldPure_117_L14 k4 fu v1 v2 0 0 σ
def m_isToldPure_117_L4 : Nat → Int32 → Int32 → Sg → Option (Int32 × Sg)
  | 0, _, _, _ => none
  | n + 1, v1, v2, σ => m_isToldPure_117_H4 (m_isToldPure_117_L4 n) v1 v2 σ
def m_isToldPure_117 (σ : Sg) : Option (Int32 × Sg) :=
  m_isToldPure_117_L4 fu 1 0 σ
def m_tells_117_b44 (k5 : Int32 → Int32 → Int32 → Int32 → Sg → Option (Int32 × Sg)) (v1 : Int32) (v2 : Int32) (v3 : Int32) (v4 : Int32) (s1 : Int32) (s2 : Int32) (σ : Sg) : Option (Int32 × Sg) :=
  gd (inB s1 8) (gd (inB v4 8) (bd (m_isIn_s (((si σ 128 s1.toNatClampNeg s2).1 128 v4.toNatClampNeg).toInt64) (-99) 99 (si σ 128 s1.toNatClampNeg s2)) fun r3 σ3 => k5 v1 v2 (v3 &&& r3) (v4 + 1) σ3))
def m_tells_117_H5 (k5 : Int32 → Int32 → Int32 → Int32 → Sg → Option (Int32 × Sg)) (v1 : Int32) (v2 : Int32) (v3 : Int32) (v4 : Int32) (σ : Sg) : Option (Int32 × Sg) :=
  if v2 ≤ v4 then gd (nbB v3) (some (v3, σ)) else gd (inB v1 3) (if (σ.1 126 v1.toNatClampNeg) ≤ v4 then m_tells_117_b44 k5 v1 v2 v3 v4 v4 0 σ else gd (inB ((40 * v1) + v4) 120) (m_tells_117_b44 k5 v1 v2 v3 v4 v4 (σ.1 127 ((40 * v1) + v4).toNatClampNeg) σ))
def m_tells_117_L5 : Nat → Int32 → Int32 → Int32 → Int32 → Sg → Option (Int32 × Sg)
  | 0, _, _, _, _, _ => none
  | n + 1, v1, v2, v3, v4, σ => m_tells_117_H5 (m_tells_117_L5 n) v1 v2 v3 v4 σ
def m_tells_117 (v1 : Int32) (v2 : Int32) (σ : Sg) : Option (Int32 × Sg) :=
  m_tells_117_L5 fu v1 v2 1 0 σ
def m_pure_117_b61 (s0 : Int32) (σ : Sg) : Option (Int32 × Sg) :=
  some (s0, σ)
def m_pure_117 (v1 : Int32) (σ : Sg) : Option (Int32 × Sg) :=
  bd (m_isList_s v1 σ) fun r1 σ1 => if r1 = 0 then bd (m_refuse_117 1 σ1) fun r10 σ10 => some (r10, σ10) else gd (inB v1 3) (if 0 ≤ (σ1.1 126 v1.toNatClampNeg) then bd (m_tells_117 v1 (σ1.1 118 0) σ1) fun r3 σ3 => if r3 = 0 then bd (m_refuse_117 3 σ3) fun r6 σ6 => some (r6, σ6) else bd (m_isToldPure_117 σ3) fun r4 σ4 => if r4 = 0 then m_pure_117_b61 0 σ4 else m_pure_117_b61 1 σ4 else bd (m_refuse_117 11 σ1) fun r8 σ8 => some (r8, σ8))
def m_partOf_s_b48 (s0 : Int64) (σ : Sg) : Option (Int64 × Sg) :=
  some (s0, σ)
def m_partOf_s_b30 (v0 : Int64) (v2 : Int64) (v4 : Int32) (s0 : Int64) (σ : Sg) : Option (Int64 × Sg) :=
  if v4 = 0 then gd (neBL s0) (m_partOf_s_b48 (v0 / s0) σ) else gd (neBL s0) (m_partOf_s_b48 (v2 / s0) σ)
def m_partOf_s (v0 : Int64) (v2 : Int64) (v4 : Int32) (σ : Sg) : Option (Int64 × Sg) :=
  if (lg_cmp v0 0) = 0 then some (v4.toInt64, σ) else if 0 ≤ (lg_cmp v2 0) then bd (m_common_s v0 v2 σ) fun r1 σ1 => m_partOf_s_b30 v0 v2 v4 r1 σ1 else bd (m_common_s v0 v2 σ) fun r2 σ2 => m_partOf_s_b30 v0 v2 v4 (-r2) σ2
def m_refuseFarther_117 (v1 : Int32) (σ : Sg) : Option (Int64 × Sg) :=
  bd (m_refuse_117 v1 σ) fun r1 σ1 => some (4000000000000000000 - r1.toInt64, σ1)
def m_cover_117_b77 (v3 : Int32) (v4 : Int32) (s0 : Int32) (σ : Sg) : Option (Int64 × Sg) :=
  if s0 = 0 then bd (m_groups_117 v4 σ) fun _ σ1 => gd (inB v4 8) (gd (inB v4 8) (bd (m_partOf_s ((σ1.1 128 v4.toNatClampNeg).toInt64) (σ1.2 124 v4.toNatClampNeg) v3 σ1) fun r4 σ4 => some (r4, σ4))) else bd (m_refuseFarther_117 s0 σ) fun r5 σ5 => some (r5, σ5)
def m_cover_117_b19 (v3 : Int32) (v4 : Int32) (σ : Sg) : Option (Int64 × Sg) :=
  m_cover_117_b77 v3 v4 1 σ
def m_cover_117_b72 (v3 : Int32) (v4 : Int32) (σ : Sg) : Option (Int64 × Sg) :=
  m_cover_117_b77 v3 v4 3 σ
def m_cover_117 (v1 : Int32) (v2 : Int32) (v3 : Int32) (σ : Sg) : Option (Int64 × Sg) :=
  bd (m_ownOf_117 v2 σ) fun r1 σ1 => bd (m_isList_s v1 σ1) fun r2 σ2 => if r2 = 0 then m_cover_117_b19 v3 r1 σ2 else if 0 ≤ r1 then bd (m_isIn_s v3.toInt64 0 1 σ2) fun r3 σ3 => if r3 = 0 then m_cover_117_b77 v3 r1 2 σ3 else gd (inB v1 3) (if 0 ≤ (σ3.1 126 v1.toNatClampNeg) then bd (m_tells_117 v1 (σ3.1 118 0) σ3) fun r5 σ5 => if r5 = 0 then m_cover_117_b72 v3 r1 σ5 else bd (m_isToldPure_117 σ5) fun r6 σ6 => if r6 = 0 then m_cover_117_b72 v3 r1 σ6 else m_cover_117_b77 v3 r1 0 σ6 else m_cover_117_b77 v3 r1 11 σ3) else m_cover_117_b19 v3 r1 σ2
def m_box_117_b108 (k29 : Int32 → Int32 → Sg → Option (Int32 × Sg)) (v1 : Int32) (v2 : Int32) (σ : Sg) : Option (Int32 × Sg) :=
  k29 v1 v2 σ
def m_box_117_b93 (k29 : Int32 → Int32 → Sg → Option (Int32 × Sg)) (v1 : Int32) (v3 : Int32) (s0 : Int32) (σ : Sg) : Option (Int32 × Sg) :=
  if s0 = 0 then m_box_117_b108 k29 v1 s0 σ else gd (inB v3 8) (gd (inB v3 8) (m_box_117_b108 k29 v1 s0 (si σ 128 v3.toNatClampNeg ((σ.1 128 v3.toNatClampNeg) + 1))))
def m_box_117_b84 (k29 : Int32 → Int32 → Sg → Option (Int32 × Sg)) (v1 : Int32) (v3 : Int32) (σ : Sg) : Option (Int32 × Sg) :=
  if v3 < 0 then m_box_117_b93 k29 v1 v3 0 σ else m_box_117_b93 k29 v1 v3 1 σ
def m_box_117_H57 (k29 : Int32 → Int32 → Sg → Option (Int32 × Sg)) (k57 : Int32 → Int32 → Sg → Option (Int32 × Sg)) (v1 : Int32) (v3 : Int32) (σ : Sg) : Option (Int32 × Sg) :=
  if v3 < 0 then m_box_117_b84 k29 v1 v3 σ else gd (inB v3 8) (if (σ.1 128 v3.toNatClampNeg) = 1 then gd (inB v3 8) (k57 v1 (v3 + (-1)) (si σ 128 v3.toNatClampNeg (-1))) else m_box_117_b84 k29 v1 v3 σ)
def m_box_117_L57 (k29 : Int32 → Int32 → Sg → Option (Int32 × Sg)) : Nat → Int32 → Int32 → Sg → Option (Int32 × Sg)
  | 0, _, _, _ => none
  | n + 1, v1, v3, σ => m_box_117_H57 k29 (m_box_117_L57 k29 n) v1 v3 σ
def m_box_117_b46 (k29 : Int32 → Int32 → Sg → Option (Int32 × Sg)) (s0 : Int32) (s1 : Int32) (σ : Sg) : Option (Int32 × Sg) :=
  m_box_117_L57 k29 fu (s0 + s1) ((σ.1 118 0) - 1) σ
def m_box_117_H29 (k29 : Int32 → Int32 → Sg → Option (Int32 × Sg)) (v1 : Int32) (v2 : Int32) (σ : Sg) : Option (Int32 × Sg) :=
  if v2 = 0 then some (v1, σ) else bd (m_isToldPure_117 σ) fun r1 σ1 => if r1 = 0 then m_box_117_b46 k29 v1 0 σ1 else m_box_117_b46 k29 v1 1 σ1
def m_box_117_L29 : Nat → Int32 → Int32 → Sg → Option (Int32 × Sg)
  | 0, _, _, _ => none
  | n + 1, v1, v2, σ => m_box_117_H29 (m_box_117_L29 n) v1 v2 σ
def m_box_117_H2 (k2 : Int32 → Sg → Option (Int32 × Sg)) (v1 : Int32) (σ : Sg) : Option (Int32 × Sg) :=
  if (σ.1 118 0) ≤ v1 then m_box_117_L29 fu 0 1 σ else gd (inB v1 8) (k2 (v1 + 1) (si σ 128 v1.toNatClampNeg (-1)))
def m_box_117_L2 : Nat → Int32 → Sg → Option (Int32 × Sg)
  | 0, _, _ => none
  | n + 1, v1, σ => m_box_117_H2 (m_box_117_L2 n) v1 σ
def m_box_117 (σ : Sg) : Option (Int32 × Sg) :=
  m_box_117_L2 fu 0 σ
def m_isLeast_117_b57 (rs : Int32 → Int32 → Sg → Option (Int32 × Sg)) (k30 : Int32 → Int32 → Int32 → Sg → Option (Int32 × Sg)) (v1 : Int32) (v2 : Int32) (v3 : Int32) (s1 : Int32) (s2 : Int32) (s3 : Int32) (σ : Sg) : Option (Int32 × Sg) :=
  bd (rs s1 (s2 - s3) σ) fun r1 σ1 => if r1 = 0 then k30 v1 v2 (v3 + 1) σ1 else some (1, σ1)
def m_isLeast_117_H30 (rs : Int32 → Int32 → Sg → Option (Int32 × Sg)) (k30 : Int32 → Int32 → Int32 → Sg → Option (Int32 × Sg)) (v1 : Int32) (v2 : Int32) (v3 : Int32) (σ : Sg) : Option (Int32 × Sg) :=
  if v2 < v3 then some (0, σ) else gd (inB v1 8) (if 0 ≤ v3 then m_isLeast_117_b57 rs k30 v1 v2 v3 (v1 + 1) v2 v3 (si σ 128 v1.toNatClampNeg v3) else m_isLeast_117_b57 rs k30 v1 v2 v3 (v1 + 1) v2 (-v3) (si σ 128 v1.toNatClampNeg v3))
def m_isLeast_117_L30 (rs : Int32 → Int32 → Sg → Option (Int32 × Sg)) : Nat → Int32 → Int32 → Int32 → Sg → Option (Int32 × Sg)
  | 0, _, _, _, _ => none
  | n + 1, v1, v2, v3, σ => m_isLeast_117_H30 rs (m_isLeast_117_L30 rs n) v1 v2 v3 σ
def m_isLeast_117_b26 (rs : Int32 → Int32 → Sg → Option (Int32 × Sg)) (s0 : Int32) (σ : Sg) : Option (Int32 × Sg) :=
  gd (nbB s0) (some (s0, σ))
def m_isLeast_117_b25 (rs : Int32 → Int32 → Sg → Option (Int32 × Sg)) (σ : Sg) : Option (Int32 × Sg) :=
  m_isLeast_117_b26 rs 0 σ
def m_isLeast_117_H (rs : Int32 → Int32 → Sg → Option (Int32 × Sg)) (v1 : Int32) (v2 : Int32) (σ : Sg) : Option (Int32 × Sg) :=
  if v1 = (σ.1 118 0) then if v2 = 0 then bd (m_isToldPure_117 σ) fun r1 σ1 => if r1 = 0 then m_isLeast_117_b25 rs σ1 else m_isLeast_117_b26 rs 1 σ1 else m_isLeast_117_b25 rs σ else m_isLeast_117_L30 rs fu v1 v2 (-v2) σ
def m_isLeast_117 : Nat → Int32 → Int32 → Sg → Option (Int32 × Sg)
  | 0, _, _, _ => none
  | n + 1, v1, v2, σ => m_isLeast_117_H (m_isLeast_117 n) v1 v2 σ
def m_least_117_b50 (s0 : Int32) (σ : Sg) : Option (Int32 × Sg) :=
  some (s0, σ)
def m_least_117_H21 (k21 : Int32 → Int32 → Sg → Option (Int32 × Sg)) (v1 : Int32) (v2 : Int32) (σ : Sg) : Option (Int32 × Sg) :=
  if 6 < v2 then some (0, σ) else bd (m_isLeast_117 12 0 v2 σ) fun r1 σ1 => if r1 = 0 then k21 v1 (v2 + 1) σ1 else if 0 ≤ v1 then gd (inB v1 8) (m_least_117_b50 (σ1.1 128 v1.toNatClampNeg) σ1) else m_least_117_b50 v2 σ1
def m_least_117_L21 : Nat → Int32 → Int32 → Sg → Option (Int32 × Sg)
  | 0, _, _, _ => none
  | n + 1, v1, v2, σ => m_least_117_H21 (m_least_117_L21 n) v1 v2 σ
def m_least_117_b19 (v1 : Int32) (σ : Sg) : Option (Int32 × Sg) :=
  m_least_117_L21 fu v1 1 σ
def m_least_117 (v1 : Int32) (σ : Sg) : Option (Int32 × Sg) :=
  if v1 = (-1) then m_least_117_b19 v1 σ else bd (m_isOne_117 v1 σ) fun r1 σ1 => if r1 = 0 then bd (m_refuseFar_117 1 σ1) fun r2 σ2 => some (r2, σ2) else m_least_117_b19 v1 σ1
def m_isFree_117_b32 (s0 : Int32) (σ : Sg) : Option (Int32 × Sg) :=
  gd (nbB s0) (some (s0, σ))
def m_isFree_117_b31 (σ : Sg) : Option (Int32 × Sg) :=
  m_isFree_117_b32 0 σ
def m_isFree_117 (v1 : Int32) (σ : Sg) : Option (Int32 × Sg) :=
  bd (m_bits_s v1 σ) fun r1 σ1 => if 5 < r1 then m_isFree_117_b31 σ1 else bd (m_lays2_117 v1 (-1) σ1) fun r2 σ2 => bd (m_bits_s v1 σ2) fun r3 σ3 => bd (m_clears_117 r2 r3 σ3) fun r4 σ4 => if (lg_cmp r4 0) = 0 then m_isFree_117_b31 σ4 else m_isFree_117_b32 1 σ4
def m_isChosen_117_b27 (s0 : Int32) (σ : Sg) : Option (Int32 × Sg) :=
  gd (nbB s0) (some (s0, σ))
def m_isChosen_117_b26 (σ : Sg) : Option (Int32 × Sg) :=
  m_isChosen_117_b27 0 σ
def m_isChosen_117 (v1 : Int32) (σ : Sg) : Option (Int32 × Sg) :=
  bd (m_bits_s v1 σ) fun r1 σ1 => bd (m_firm_117 σ1) fun r2 σ2 => bd (m_bits_s r2 σ2) fun r3 σ3 => if r1 = r3 then bd (m_isFree_117 v1 σ3) fun r4 σ4 => if r4 = 0 then m_isChosen_117_b26 σ4 else m_isChosen_117_b27 1 σ4 else m_isChosen_117_b26 σ3
def m_isSet_117 (v1 : Int32) (σ : Sg) : Option (Int32 × Sg) :=
  bd (m_isIn_s v1.toInt64 0 ((((1 : Int32) <<< ((σ.1 118 0) &&& 31)) - 1).toInt64) σ) fun r1 σ1 => gd (nbB r1) (some (r1, σ1))
def m_may_117_b27 (s0 : Int32) (σ : Sg) : Option (Int32 × Sg) :=
  some (s0, σ)
def m_may_117 (v1 : Int32) (σ : Sg) : Option (Int32 × Sg) :=
  bd (m_isSet_117 v1 σ) fun r1 σ1 => if r1 = 0 then bd (m_refuse_117 1 σ1) fun r4 σ4 => some (r4, σ4) else bd (m_isChosen_117 v1 σ1) fun r2 σ2 => if r2 = 0 then m_may_117_b27 0 σ2 else m_may_117_b27 1 σ2
def m_rest_117_b32 (σ : Sg) : Option (Int32 × Sg) :=
  bd (m_refuseFar_117 1 σ) fun r1 σ1 => some (r1, σ1)
def m_rest_117 (v1 : Int32) (v2 : Int32) (v3 : Int32) (σ : Sg) : Option (Int32 × Sg) :=
  bd (m_isSet_117 v1 σ) fun r1 σ1 => if r1 = 0 then m_rest_117_b32 σ1 else bd (m_isOne_117 v2 σ1) fun r2 σ2 => if r2 = 0 then m_rest_117_b32 σ2 else bd (m_has_s v1 v2 σ2) fun r3 σ3 => if r3 = 0 then bd (m_isOne_117 v3 σ3) fun r4 σ4 => if r4 = 0 then m_rest_117_b32 σ4 else bd (m_isChosen_117 v1 σ4) fun r5 σ5 => if r5 = 0 then bd (m_refuseFar_117 3 σ5) fun r8 σ8 => some (r8, σ8) else bd (m_isHad_117 v1 v2 σ5) fun r6 σ6 => gd (inB v3 8) (some ((σ6.2 124 v3.toNatClampNeg).toInt32, σ6)) else m_rest_117_b32 σ3
def m_sizesOf_117_b91 (k5 : Int32 → Int64 → Int32 → Sg → Option (Int64 × Sg)) (v1 : Int32) (v2 : Int64) (v4 : Int32) (σ : Sg) : Option (Int64 × Sg) :=
  k5 v1 v2 (v4 + 1) σ
def m_sizesOf_117_b83 (k5 : Int32 → Int64 → Int32 → Sg → Option (Int64 × Sg)) (k41 : Int32 → Int64 → Int32 → Int32 → Sg → Option (Int64 × Sg)) (v1 : Int32) (v4 : Int32) (v5 : Int32) (s0 : Int64) (s1 : Int64) (σ : Sg) : Option (Int64 × Sg) :=
  k41 v1 (s0 + s1) v4 (v5 + 1) σ
def m_sizesOf_117_H41 (k5 : Int32 → Int64 → Int32 → Sg → Option (Int64 × Sg)) (k41 : Int32 → Int64 → Int32 → Int32 → Sg → Option (Int64 × Sg)) (v1 : Int32) (v2 : Int64) (v4 : Int32) (v5 : Int32) (σ : Sg) : Option (Int64 × Sg) :=
  if (σ.1 118 0) ≤ v5 then m_sizesOf_117_b91 k5 v1 v2 v4 σ else gd (inB v5 8) (if 0 ≤ (lg_cmp (σ.2 124 v5.toNatClampNeg) 0) then gd (inB v5 8) (m_sizesOf_117_b83 k5 k41 v1 v4 v5 v2 (σ.2 124 v5.toNatClampNeg) σ) else gd (inB v5 8) (m_sizesOf_117_b83 k5 k41 v1 v4 v5 v2 (-(σ.2 124 v5.toNatClampNeg)) σ))
def m_sizesOf_117_L41 (k5 : Int32 → Int64 → Int32 → Sg → Option (Int64 × Sg)) : Nat → Int32 → Int64 → Int32 → Int32 → Sg → Option (Int64 × Sg)
  | 0, _, _, _, _, _ => none
  | n + 1, v1, v2, v4, v5, σ => m_sizesOf_117_H41 k5 (m_sizesOf_117_L41 k5 n) v1 v2 v4 v5 σ
def m_sizesOf_117_H5 (k5 : Int32 → Int64 → Int32 → Sg → Option (Int64 × Sg)) (v1 : Int32) (v2 : Int64) (v4 : Int32) (σ : Sg) : Option (Int64 × Sg) :=
  if (σ.1 118 0) ≤ v4 then some (v2, σ) else bd (m_has_s v1 v4 σ) fun r1 σ1 => if r1 = 0 then bd (m_isHad_117 v1 v4 σ1) fun r2 σ2 => if r2 = 0 then m_sizesOf_117_b91 k5 v1 v2 v4 σ2 else m_sizesOf_117_L41 k5 fu v1 v2 v4 0 σ2 else m_sizesOf_117_b91 k5 v1 v2 v4 σ1
def m_sizesOf_117_L5 : Nat → Int32 → Int64 → Int32 → Sg → Option (Int64 × Sg)
  | 0, _, _, _, _ => none
  | n + 1, v1, v2, v4, σ => m_sizesOf_117_H5 (m_sizesOf_117_L5 n) v1 v2 v4 σ
def m_sizesOf_117 (v1 : Int32) (σ : Sg) : Option (Int64 × Sg) :=
  m_sizesOf_117_L5 fu v1 0 0 σ
def m_sizes_117_b35 (s0 : Int64) (σ : Sg) : Option (Int64 × Sg) :=
  some (s0, σ)
def m_sizes_117 (v1 : Int32) (σ : Sg) : Option (Int64 × Sg) :=
  bd (m_isSet_117 v1 σ) fun r1 σ1 => if r1 = 0 then bd (m_refuseFarther_117 1 σ1) fun r6 σ6 => some (r6, σ6) else bd (m_isChosen_117 v1 σ1) fun r2 σ2 => if r2 = 0 then bd (m_refuseFarther_117 3 σ2) fun r3 σ3 => m_sizes_117_b35 r3 σ3 else bd (m_sizesOf_117 v1 σ2) fun r4 σ4 => m_sizes_117_b35 r4 σ4
def m_bestSet_117_b64 (k7 : Int32 → Int32 → Int64 → Int32 → Sg → Option (Int32 × Sg)) (v1 : Int32) (v2 : Int32) (v3 : Int64) (v5 : Int32) (σ : Sg) : Option (Int32 × Sg) :=
  k7 v1 v2 v3 (v5 + 1) σ
def m_bestSet_117_b58 (k7 : Int32 → Int32 → Int64 → Int32 → Sg → Option (Int32 × Sg)) (v1 : Int32) (v5 : Int32) (v6 : Int64) (σ : Sg) : Option (Int32 × Sg) :=
  m_bestSet_117_b64 k7 v1 v5 v6 v5 σ
def m_bestSet_117_H7 (k7 : Int32 → Int32 → Int64 → Int32 → Sg → Option (Int32 × Sg)) (v1 : Int32) (v2 : Int32) (v3 : Int64) (v5 : Int32) (σ : Sg) : Option (Int32 × Sg) :=
  if ((1 : Int32) <<< ((σ.1 118 0) &&& 31)) ≤ v5 then some (v2, σ) else bd (m_isChosen_117 v5 σ) fun r1 σ1 => if r1 = 0 then m_bestSet_117_b64 k7 v1 v2 v3 v5 σ1 else if v1 = 0 then bd (m_sizesOf_117 v5 σ1) fun r2 σ2 => if v2 < 0 then m_bestSet_117_b58 k7 v1 v5 r2 σ2 else if 0 ≤ (lg_cmp r2 v3) then m_bestSet_117_b64 k7 v1 v2 v3 v5 σ2 else m_bestSet_117_b58 k7 v1 v5 r2 σ2 else some (v5, σ1)
def m_bestSet_117_L7 : Nat → Int32 → Int32 → Int64 → Int32 → Sg → Option (Int32 × Sg)
  | 0, _, _, _, _, _ => none
  | n + 1, v1, v2, v3, v5, σ => m_bestSet_117_H7 (m_bestSet_117_L7 n) v1 v2 v3 v5 σ
def m_bestSet_117 (v1 : Int32) (σ : Sg) : Option (Int32 × Sg) :=
  m_bestSet_117_L7 fu v1 (-1) 0 0 σ
def m_chosen_117_b30 (k4 : Int32 → Int32 → Sg → Option (Int32 × Sg)) (v2 : Int32) (s0 : Int32) (s1 : Int32) (σ : Sg) : Option (Int32 × Sg) :=
  k4 (s0 + s1) (v2 + 1) σ
def m_chosen_117_H4 (k4 : Int32 → Int32 → Sg → Option (Int32 × Sg)) (v1 : Int32) (v2 : Int32) (σ : Sg) : Option (Int32 × Sg) :=
  if ((1 : Int32) <<< ((σ.1 118 0) &&& 31)) ≤ v2 then some (v1, σ) else bd (m_isChosen_117 v2 σ) fun r1 σ1 => if r1 = 0 then m_chosen_117_b30 k4 v2 v1 0 σ1 else m_chosen_117_b30 k4 v2 v1 1 σ1
def m_chosen_117_L4 : Nat → Int32 → Int32 → Sg → Option (Int32 × Sg)
  | 0, _, _, _ => none
  | n + 1, v1, v2, σ => m_chosen_117_H4 (m_chosen_117_L4 n) v1 v2 σ
def m_chosen_117 (σ : Sg) : Option (Int32 × Sg) :=
  m_chosen_117_L4 fu 0 0 σ
def m_sets1_117_b43 (s0 : Int32) (σ : Sg) : Option (Int32 × Sg) :=
  some (s0, σ)
def m_sets1_117_b40 (s1 : Int32) (σ : Sg) : Option (Int32 × Sg) :=
  bd (m_bestSet_117 s1 σ) fun r1 σ1 => m_sets1_117_b43 r1 σ1
def m_sets1_117 (v1 : Int32) (σ : Sg) : Option (Int32 × Sg) :=
  bd (m_isIn_s v1.toInt64 0 2 σ) fun r1 σ1 => if r1 = 0 then bd (m_refuse_117 2 σ1) fun r5 σ5 => some (r5, σ5) else if v1 = 0 then bd (m_chosen_117 σ1) fun r3 σ3 => m_sets1_117_b43 r3 σ3 else if v1 = 1 then m_sets1_117_b40 1 σ1 else m_sets1_117_b40 0 σ1
def m_odds_117_b57 (k29 : Int32 → Int32 → Int32 → Int32 → Sg → Option (Int64 × Sg)) (v1 : Int32) (v3 : Int32) (v4 : Int32) (s0 : Int32) (s1 : Int32) (σ : Sg) : Option (Int64 × Sg) :=
  k29 v1 (s0 + s1) v3 (v4 + 1) σ
def m_odds_117_H29 (k29 : Int32 → Int32 → Int32 → Int32 → Sg → Option (Int64 × Sg)) (v1 : Int32) (v2 : Int32) (v3 : Int32) (v4 : Int32) (σ : Sg) : Option (Int64 × Sg) :=
  if ((1 : Int32) <<< ((σ.1 118 0) &&& 31)) ≤ v4 then bd (m_chosen_117 σ) fun r1 σ1 => bd (m_partOf_s r1.toInt64 v2.toInt64 v1 σ1) fun r2 σ2 => some (r2, σ2) else bd (m_bits_s v4 σ) fun r3 σ3 => if r3 = v3 then m_odds_117_b57 k29 v1 v3 v4 v2 1 σ3 else m_odds_117_b57 k29 v1 v3 v4 v2 0 σ3
def m_odds_117_L29 : Nat → Int32 → Int32 → Int32 → Int32 → Sg → Option (Int64 × Sg)
  | 0, _, _, _, _, _ => none
  | n + 1, v1, v2, v3, v4, σ => m_odds_117_H29 (m_odds_117_L29 n) v1 v2 v3 v4 σ
def m_odds_117 (v1 : Int32) (σ : Sg) : Option (Int64 × Sg) :=
  bd (m_isIn_s v1.toInt64 0 1 σ) fun r1 σ1 => if r1 = 0 then bd (m_refuseFarther_117 2 σ1) fun r4 σ4 => some (r4, σ4) else bd (m_firm_117 σ1) fun r2 σ2 => bd (m_bits_s r2 σ2) fun r3 σ3 => m_odds_117_L29 fu v1 0 r3 0 σ3
def m_scale_117_b27 (σ : Sg) : Option (Int32 × Sg) :=
  bd (m_refuse_117 4 σ) fun r1 σ1 => some (r1, σ1)
def m_scale_117_b49 (σ : Sg) : Option (Int32 × Sg) :=
  bd (m_refuse_117 6 σ) fun r1 σ1 => some (r1, σ1)
def m_scale_117_b95 (s1 : Int32) (s2 : Int32) (σ : Sg) : Option (Int32 × Sg) :=
  gd (inB s1 139) (some (1, si σ 118 s1.toNatClampNeg s2))
def m_scale_117_b56 (v1 : Int32) (v2 : Int32) (v3 : Int32) (σ : Sg) : Option (Int32 × Sg) :=
  bd (m_changes_117 (49 + v1) (57 + v1) σ) fun _ σ1 => gd (inB (49 + v1) 139) (if v2 = 0 then m_scale_117_b95 (57 + v1) 0 (si σ1 118 (49 + v1).toNatClampNeg v2) else m_scale_117_b95 (57 + v1) v3 (si σ1 118 (49 + v1).toNatClampNeg v2))
def m_scale_117_b33 (v1 : Int32) (v2 : Int32) (v3 : Int32) (σ : Sg) : Option (Int32 × Sg) :=
  if 99 < v2 then m_scale_117_b49 σ else if v2 ≤ 0 then m_scale_117_b56 v1 v2 v3 σ else if v3 ≤ 99 then m_scale_117_b56 v1 v2 v3 σ else m_scale_117_b49 σ
def m_scale_117 (v1 : Int32) (v2 : Int32) (v3 : Int32) (σ : Sg) : Option (Int32 × Sg) :=
  bd (m_isOne_117 v1 σ) fun r1 σ1 => if r1 = 0 then bd (m_refuse_117 1 σ1) fun r5 σ5 => some (r5, σ5) else if v2 < 0 then m_scale_117_b27 σ1 else if v2 ≤ 0 then m_scale_117_b33 v1 v2 v3 σ1 else if 1 ≤ v3 then m_scale_117_b33 v1 v2 v3 σ1 else m_scale_117_b27 σ1
def m_scaled_117_b72 (s0 : Int32) (σ : Sg) : Option (Int32 × Sg) :=
  some (s0, σ)
def m_scaled_117 (v1 : Int32) (v2 : Int32) (σ : Sg) : Option (Int32 × Sg) :=
  bd (m_isOne_117 v1 σ) fun r1 σ1 => if r1 = 0 then bd (m_refuse_117 1 σ1) fun r10 σ10 => some (r10, σ10) else bd (m_isIn_s v2.toInt64 0 1 σ1) fun r2 σ2 => if r2 = 0 then bd (m_refuse_117 2 σ2) fun r8 σ8 => some (r8, σ8) else gd (inB (49 + v1) 139) (if (σ2.1 118 (49 + v1).toNatClampNeg) = 0 then m_scaled_117_b72 (-9) σ2 else gd (inB (49 + v1) 139) (gd (inB (57 + v1) 139) (bd (m_partOf_s ((σ2.1 118 (49 + v1).toNatClampNeg).toInt64) ((σ2.1 118 (57 + v1).toNatClampNeg).toInt64) v2 σ2) fun r6 σ6 => m_scaled_117_b72 r6.toInt32 σ6)))
def m_areScaled_117_b43 (k4 : Int32 → Int32 → Sg → Option (Int32 × Sg)) (v2 : Int32) (s0 : Int32) (s1 : Int32) (σ : Sg) : Option (Int32 × Sg) :=
  k4 (s0 &&& s1) (v2 + 1) σ
def m_areScaled_117_b38 (k4 : Int32 → Int32 → Sg → Option (Int32 × Sg)) (v2 : Int32) (s0 : Int32) (σ : Sg) : Option (Int32 × Sg) :=
  m_areScaled_117_b43 k4 v2 s0 1 σ
def m_areScaled_117_H4 (k4 : Int32 → Int32 → Sg → Option (Int32 × Sg)) (v1 : Int32) (v2 : Int32) (σ : Sg) : Option (Int32 × Sg) :=
  if (σ.1 118 0) ≤ v2 then gd (nbB v1) (some (v1, σ)) else gd (inB v2 8) (if (lg_cmp (σ.2 124 v2.toNatClampNeg) 0) = 0 then m_areScaled_117_b38 k4 v2 v1 σ else gd (inB (49 + v2) 139) (if (σ.1 118 (49 + v2).toNatClampNeg) ≤ 0 then m_areScaled_117_b43 k4 v2 v1 0 σ else m_areScaled_117_b38 k4 v2 v1 σ))
def m_areScaled_117_L4 : Nat → Int32 → Int32 → Sg → Option (Int32 × Sg)
  | 0, _, _, _ => none
  | n + 1, v1, v2, σ => m_areScaled_117_H4 (m_areScaled_117_L4 n) v1 v2 σ
def m_areScaled_117 (σ : Sg) : Option (Int32 × Sg) :=
  m_areScaled_117_L4 fu 1 0 σ
def m_isPrime_s_H2 (k2 : Int32 → Int32 → Sg → Option (Int32 × Sg)) (v0 : Int32) (v1 : Int32) (σ : Sg) : Option (Int32 × Sg) :=
  if v0 ≤ v1 then bd (m_isIn_s v0.toInt64 2 97 σ) fun r1 σ1 => gd (nbB r1) (some (r1, σ1)) else gd (neB v1) (if (irm v0 v1) = 0 then some (0, σ) else k2 v0 (v1 + 1) σ)
def m_isPrime_s_L2 : Nat → Int32 → Int32 → Sg → Option (Int32 × Sg)
  | 0, _, _, _ => none
  | n + 1, v0, v1, σ => m_isPrime_s_H2 (m_isPrime_s_L2 n) v0 v1 σ
def m_isPrime_s (v0 : Int32) (σ : Sg) : Option (Int32 × Sg) :=
  m_isPrime_s_L2 fu v0 2 σ
def m_often_s_b24 (v2 : Int32) (σ : Sg) : Option (Int32 × Sg) :=
  some (v2, σ)
def m_often_s_H4 (k4 : Int32 → Int32 → Int32 → Sg → Option (Int32 × Sg)) (v1 : Int32) (v2 : Int32) (v3 : Int32) (σ : Sg) : Option (Int32 × Sg) :=
  if v3 ≤ 0 then m_often_s_b24 v2 σ else gd (neB v1) (if (irm v3 v1) = 0 then gd (neB v1) (k4 v1 (v2 + 1) (v3 / v1) σ) else m_often_s_b24 v2 σ)
def m_often_s_L4 : Nat → Int32 → Int32 → Int32 → Sg → Option (Int32 × Sg)
  | 0, _, _, _, _ => none
  | n + 1, v1, v2, v3, σ => m_often_s_H4 (m_often_s_L4 n) v1 v2 v3 σ
def m_often_s (v0 : Int32) (v1 : Int32) (σ : Sg) : Option (Int32 × Sg) :=
  m_often_s_L4 fu v1 0 v0 σ
def m_powerIn_117 (v1 : Int32) (v2 : Int32) (σ : Sg) : Option (Int32 × Sg) :=
  gd (inB (49 + v1) 139) (bd (m_often_s (σ.1 118 (49 + v1).toNatClampNeg) v2 σ) fun r2 σ2 => gd (inB (57 + v1) 139) (bd (m_often_s (σ2.1 118 (57 + v1).toNatClampNeg) v2 σ2) fun r4 σ4 => some (r2 - r4, σ4)))
def m_weighs_117_b55 (k5 : Int32 → Int32 → Int64 → Int32 → Sg → Option (Int64 × Sg)) (v1 : Int32) (v2 : Int32) (v5 : Int32) (s0 : Int64) (s1 : Int64) (σ : Sg) : Option (Int64 × Sg) :=
  k5 v1 v2 (s0 + s1) (v5 + 1) σ
def m_weighs_117_b54 (k5 : Int32 → Int32 → Int64 → Int32 → Sg → Option (Int64 × Sg)) (v1 : Int32) (v2 : Int32) (v5 : Int32) (s0 : Int64) (σ : Sg) : Option (Int64 × Sg) :=
  m_weighs_117_b55 k5 v1 v2 v5 s0 0 σ
def m_weighs_117_H5 (k5 : Int32 → Int32 → Int64 → Int32 → Sg → Option (Int64 × Sg)) (v1 : Int32) (v2 : Int32) (v3 : Int64) (v5 : Int32) (σ : Sg) : Option (Int64 × Sg) :=
  if (σ.1 118 0) ≤ v5 then some (v3, σ) else if v5 = v2 then m_weighs_117_b54 k5 v1 v2 v5 v3 σ else gd (inB v5 8) (if (lg_cmp (σ.2 124 v5.toNatClampNeg) 0) = 0 then m_weighs_117_b54 k5 v1 v2 v5 v3 σ else gd (inB v5 8) (bd (m_powerIn_117 v5 v1 σ) fun r3 σ3 => m_weighs_117_b55 k5 v1 v2 v5 v3 ((σ.2 124 v5.toNatClampNeg) * r3.toInt64) σ3))
def m_weighs_117_L5 : Nat → Int32 → Int32 → Int64 → Int32 → Sg → Option (Int64 × Sg)
  | 0, _, _, _, _, _ => none
  | n + 1, v1, v2, v3, v5, σ => m_weighs_117_H5 (m_weighs_117_L5 n) v1 v2 v3 v5 σ
def m_weighs_117 (v1 : Int32) (v2 : Int32) (σ : Sg) : Option (Int64 × Sg) :=
  m_weighs_117_L5 fu v1 v2 0 0 σ
def m_isAlike_117_b34 (k4 : Int32 → Int32 → Sg → Option (Int32 × Sg)) (v2 : Int32) (s0 : Int32) (s1 : Int32) (σ : Sg) : Option (Int32 × Sg) :=
  k4 (s0 &&& s1) (v2 + 1) σ
def m_isAlike_117_b29 (k4 : Int32 → Int32 → Sg → Option (Int32 × Sg)) (v2 : Int32) (s0 : Int32) (σ : Sg) : Option (Int32 × Sg) :=
  m_isAlike_117_b34 k4 v2 s0 1 σ
def m_isAlike_117_H4 (k4 : Int32 → Int32 → Sg → Option (Int32 × Sg)) (v1 : Int32) (v2 : Int32) (σ : Sg) : Option (Int32 × Sg) :=
  if 97 < v2 then gd (nbB v1) (some (v1, σ)) else bd (m_isPrime_s v2 σ) fun r1 σ1 => if r1 = 0 then m_isAlike_117_b29 k4 v2 v1 σ1 else bd (m_weighs_117 v2 (-1) σ1) fun r2 σ2 => if (lg_cmp r2 0) = 0 then m_isAlike_117_b29 k4 v2 v1 σ2 else m_isAlike_117_b34 k4 v2 v1 0 σ2
def m_isAlike_117_L4 : Nat → Int32 → Int32 → Sg → Option (Int32 × Sg)
  | 0, _, _, _ => none
  | n + 1, v1, v2, σ => m_isAlike_117_H4 (m_isAlike_117_L4 n) v1 v2 σ
def m_isAlike_117 (σ : Sg) : Option (Int32 × Sg) :=
  m_isAlike_117_L4 fu 1 2 σ
def m_alike_117_b40 (k10 : Int32 → Int32 → Sg → Option (Int32 × Sg)) (v1 : Int32) (v2 : Int32) (σ : Sg) : Option (Int32 × Sg) :=
  k10 v1 (v2 + 1) σ
def m_alike_117_H10 (k10 : Int32 → Int32 → Sg → Option (Int32 × Sg)) (v1 : Int32) (v2 : Int32) (σ : Sg) : Option (Int32 × Sg) :=
  if v1 ≤ v2 then some ((-9), σ) else bd (m_ownOf_117 v2 σ) fun r1 σ1 => bd (m_groups_117 r1 σ1) fun _ σ2 => bd (m_areScaled_117 σ2) fun r3 σ3 => if r3 = 0 then m_alike_117_b40 k10 v1 v2 σ3 else bd (m_isAlike_117 σ3) fun r4 σ4 => if r4 = 0 then some (v2, σ4) else m_alike_117_b40 k10 v1 v2 σ4
def m_alike_117_L10 : Nat → Int32 → Int32 → Sg → Option (Int32 × Sg)
  | 0, _, _, _ => none
  | n + 1, v1, v2, σ => m_alike_117_H10 (m_alike_117_L10 n) v1 v2 σ
def m_alike_117 (σ : Sg) : Option (Int32 × Sg) :=
  bd (m_loose_117 σ) fun r1 σ1 => bd (m_bits_s r1 σ1) fun r2 σ2 => m_alike_117_L10 fu r2 0 σ2
def m_isScaled_117_b54 (v2 : Int32) (σ : Sg) : Option (Int32 × Sg) :=
  gd (nbB v2) (some (v2, σ))
def m_isScaled_117_b47 (k8 : Int32 → Int32 → Int32 → Sg → Option (Int32 × Sg)) (v1 : Int32) (v3 : Int32) (s0 : Int32) (σ : Sg) : Option (Int32 × Sg) :=
  k8 v1 s0 (v3 + 1) σ
def m_isScaled_117_b42 (k8 : Int32 → Int32 → Int32 → Sg → Option (Int32 × Sg)) (v1 : Int32) (v3 : Int32) (σ : Sg) : Option (Int32 × Sg) :=
  m_isScaled_117_b47 k8 v1 v3 1 σ
def m_isScaled_117_H8 (k8 : Int32 → Int32 → Int32 → Sg → Option (Int32 × Sg)) (v1 : Int32) (v2 : Int32) (v3 : Int32) (σ : Sg) : Option (Int32 × Sg) :=
  if (σ.1 118 0) ≤ v3 then m_isScaled_117_b54 v2 σ else if v2 = 0 then m_isScaled_117_b54 v2 σ else bd (m_has_s v1 v3 σ) fun r1 σ1 => if r1 = 0 then m_isScaled_117_b42 k8 v1 v3 σ1 else gd (inB (49 + v3) 139) (if (σ1.1 118 (49 + v3).toNatClampNeg) ≤ 0 then m_isScaled_117_b47 k8 v1 v3 0 σ1 else m_isScaled_117_b42 k8 v1 v3 σ1)
def m_isScaled_117_L8 : Nat → Int32 → Int32 → Int32 → Sg → Option (Int32 × Sg)
  | 0, _, _, _, _ => none
  | n + 1, v1, v2, v3, σ => m_isScaled_117_H8 (m_isScaled_117_L8 n) v1 v2 v3 σ
def m_isScaled_117 (v1 : Int32) (σ : Sg) : Option (Int32 × Sg) :=
  bd (m_isChosen_117 v1 σ) fun r1 σ1 => m_isScaled_117_L8 fu v1 r1 0 σ1
def m_wrongMust_117_b29 (s0 : Int32) (σ : Sg) : Option (Int32 × Sg) :=
  some (s0, σ)
def m_wrongMust_117_b24 (σ : Sg) : Option (Int32 × Sg) :=
  m_wrongMust_117_b29 1 σ
def m_wrongMust_117 (v1 : Int32) (v2 : Int32) (σ : Sg) : Option (Int32 × Sg) :=
  bd (m_isSet_117 v1 σ) fun r1 σ1 => if r1 = 0 then m_wrongMust_117_b24 σ1 else bd (m_isOne_117 v2 σ1) fun r2 σ2 => if r2 = 0 then m_wrongMust_117_b24 σ2 else bd (m_has_s v1 v2 σ2) fun r3 σ3 => if r3 = 0 then m_wrongMust_117_b29 0 σ3 else m_wrongMust_117_b24 σ3
def m_must_117_b67 (v1 : Int32) (v2 : Int32) (v3 : Int32) (v4 : Int32) (s0 : Int32) (σ : Sg) : Option (Int64 × Sg) :=
  if s0 = 0 then bd (m_isHad_117 v1 v2 σ) fun r1 σ1 => bd (m_weighs_117 v3 v2 σ1) fun r2 σ2 => gd (inB v2 8) (bd (m_partOf_s (-r2) (σ2.2 124 v2.toNatClampNeg) v4 σ2) fun r4 σ4 => some (r4, σ4)) else bd (m_refuseFarther_117 s0 σ) fun r5 σ5 => some (r5, σ5)
def m_must_117_b50 (v1 : Int32) (v2 : Int32) (v3 : Int32) (v4 : Int32) (σ : Sg) : Option (Int64 × Sg) :=
  m_must_117_b67 v1 v2 v3 v4 2 σ
def m_must_117 (v1 : Int32) (v2 : Int32) (v3 : Int32) (v4 : Int32) (σ : Sg) : Option (Int64 × Sg) :=
  bd (m_wrongMust_117 v1 v2 σ) fun r1 σ1 => if r1 = 0 then bd (m_isIn_s v3.toInt64 2 97 σ1) fun r2 σ2 => if r2 = 0 then m_must_117_b50 v1 v2 v3 v4 σ2 else bd (m_isPrime_s v3 σ2) fun r3 σ3 => if r3 = 0 then m_must_117_b50 v1 v2 v3 v4 σ3 else bd (m_isIn_s v4.toInt64 0 1 σ3) fun r4 σ4 => if r4 = 0 then m_must_117_b50 v1 v2 v3 v4 σ4 else bd (m_isScaled_117 v1 σ4) fun r5 σ5 => if r5 = 0 then m_must_117_b67 v1 v2 v3 v4 3 σ5 else m_must_117_b67 v1 v2 v3 v4 0 σ5 else m_must_117_b67 v1 v2 v3 v4 r1 σ1
def m_whole_117_b110 (s0 : Int32) (σ : Sg) : Option (Int32 × Sg) :=
  some (s0, σ)
def m_whole_117_b91 (k50 : Int32 → Int32 → Int32 → Sg → Option (Int32 × Sg)) (v2 : Int32) (v5 : Int32) (s0 : Int32) (s1 : Int32) (σ : Sg) : Option (Int32 × Sg) :=
  k50 v2 (s0 &&& s1) (v5 + 1) σ
def m_whole_117_b86 (k50 : Int32 → Int32 → Int32 → Sg → Option (Int32 × Sg)) (v2 : Int32) (v5 : Int32) (s0 : Int32) (σ : Sg) : Option (Int32 × Sg) :=
  m_whole_117_b91 k50 v2 v5 s0 1 σ
def m_whole_117_H50 (k50 : Int32 → Int32 → Int32 → Sg → Option (Int32 × Sg)) (v2 : Int32) (v4 : Int32) (v5 : Int32) (σ : Sg) : Option (Int32 × Sg) :=
  if 97 < v5 then if v4 = 0 then m_whole_117_b110 0 σ else m_whole_117_b110 1 σ else bd (m_isPrime_s v5 σ) fun r2 σ2 => if r2 = 0 then m_whole_117_b86 k50 v2 v5 v4 σ2 else bd (m_weighs_117 v5 v2 σ2) fun r3 σ3 => gd (inB v2 8) (gd (neBL (σ3.2 124 v2.toNatClampNeg)) (if (lg_cmp (lrm r3 (σ3.2 124 v2.toNatClampNeg)) 0) = 0 then m_whole_117_b86 k50 v2 v5 v4 σ3 else m_whole_117_b91 k50 v2 v5 v4 0 σ3))
def m_whole_117_L50 : Nat → Int32 → Int32 → Int32 → Sg → Option (Int32 × Sg)
  | 0, _, _, _, _ => none
  | n + 1, v2, v4, v5, σ => m_whole_117_H50 (m_whole_117_L50 n) v2 v4 v5 σ
def m_whole_117_b28 (v1 : Int32) (v2 : Int32) (s0 : Int32) (σ : Sg) : Option (Int32 × Sg) :=
  if s0 = 0 then bd (m_isHad_117 v1 v2 σ) fun r1 σ1 => m_whole_117_L50 fu v2 r1 2 σ1 else bd (m_refuse_117 s0 σ) fun r2 σ2 => some (r2, σ2)
def m_whole_117 (v1 : Int32) (v2 : Int32) (σ : Sg) : Option (Int32 × Sg) :=
  bd (m_wrongMust_117 v1 v2 σ) fun r1 σ1 => if r1 = 0 then bd (m_isScaled_117 v1 σ1) fun r2 σ2 => if r2 = 0 then m_whole_117_b28 v1 v2 3 σ2 else m_whole_117_b28 v1 v2 0 σ2 else m_whole_117_b28 v1 v2 r1 σ1
def m_off_117_b91 (k32 : Int32 → Int32 → Int32 → Sg → Option (Int32 × Sg)) (v1 : Int32) (v2 : Int32) (v3 : Int32) (σ : Sg) : Option (Int32 × Sg) :=
  k32 v1 v2 (v3 + 1) σ
def m_off_117_b89 (k32 : Int32 → Int32 → Int32 → Sg → Option (Int32 × Sg)) (v1 : Int32) (v3 : Int32) (s0 : Int32) (s1 : Int32) (σ : Sg) : Option (Int32 × Sg) :=
  m_off_117_b91 k32 v1 (s0 ||| s1) v3 σ
def m_off_117_H32 (k32 : Int32 → Int32 → Int32 → Sg → Option (Int32 × Sg)) (v1 : Int32) (v2 : Int32) (v3 : Int32) (σ : Sg) : Option (Int32 × Sg) :=
  if (σ.1 118 0) ≤ v3 then some (v2, σ) else bd (m_has_s v1 v3 σ) fun r1 σ1 => if r1 = 0 then gd (inB (49 + v3) 139) (if (σ1.1 118 (49 + v3).toNatClampNeg) = 0 then m_off_117_b91 k32 v1 v2 v3 σ1 else bd (m_isHad_117 v1 v3 σ1) fun r3 σ3 => if r3 = 0 then m_off_117_b91 k32 v1 v2 v3 σ3 else bd (m_isAlike_117 σ3) fun r4 σ4 => if r4 = 0 then m_off_117_b89 k32 v1 v3 v2 ((1 : Int32) <<< (v3 &&& 31)) σ4 else m_off_117_b89 k32 v1 v3 v2 0 σ4) else m_off_117_b91 k32 v1 v2 v3 σ1
def m_off_117_L32 : Nat → Int32 → Int32 → Int32 → Sg → Option (Int32 × Sg)
  | 0, _, _, _, _ => none
  | n + 1, v1, v2, v3, σ => m_off_117_H32 (m_off_117_L32 n) v1 v2 v3 σ
def m_off_117 (v1 : Int32) (σ : Sg) : Option (Int32 × Sg) :=
  bd (m_isSet_117 v1 σ) fun r1 σ1 => if r1 = 0 then bd (m_refuse_117 1 σ1) fun r5 σ5 => some (r5, σ5) else bd (m_isScaled_117 v1 σ1) fun r2 σ2 => if r2 = 0 then bd (m_refuse_117 3 σ2) fun r3 σ3 => some (r3, σ3) else m_off_117_L32 fu v1 0 0 σ2
def m_powerBy_117_b48 (k5 : Int32 → Int32 → Int32 → Int32 → Sg → Option (Int32 × Sg)) (v1 : Int32) (v2 : Int32) (v4 : Int32) (s0 : Int32) (s1 : Int32) (σ : Sg) : Option (Int32 × Sg) :=
  k5 v1 v2 (s0 + s1) (v4 + 1) σ
def m_powerBy_117_H5 (k5 : Int32 → Int32 → Int32 → Int32 → Sg → Option (Int32 × Sg)) (v1 : Int32) (v2 : Int32) (v3 : Int32) (v4 : Int32) (σ : Sg) : Option (Int32 × Sg) :=
  if v1 ≤ v4 then some (v3, σ) else gd (inB v4 3) (bd (m_powerOf_117 ((σ.1 129 v4.toNatClampNeg) / 2) v2 σ) fun r2 σ2 => gd (inB v4 3) (if (irm (σ2.1 129 v4.toNatClampNeg) 2) = 0 then m_powerBy_117_b48 k5 v1 v2 v4 v3 r2 σ2 else m_powerBy_117_b48 k5 v1 v2 v4 v3 (-r2) σ2))
def m_powerBy_117_L5 : Nat → Int32 → Int32 → Int32 → Int32 → Sg → Option (Int32 × Sg)
  | 0, _, _, _, _, _ => none
  | n + 1, v1, v2, v3, v4, σ => m_powerBy_117_H5 (m_powerBy_117_L5 n) v1 v2 v3 v4 σ
def m_powerBy_117 (v1 : Int32) (v2 : Int32) (σ : Sg) : Option (Int32 × Sg) :=
  m_powerBy_117_L5 fu v1 v2 0 0 σ
def m_isWanted_117_b30 (k4 : Int32 → Int32 → Int32 → Sg → Option (Int32 × Sg)) (v1 : Int32) (v3 : Int32) (s0 : Int32) (s1 : Int32) (σ : Sg) : Option (Int32 × Sg) :=
  k4 v1 (s0 &&& s1) (v3 + 1) σ
def m_isWanted_117_H4 (k4 : Int32 → Int32 → Int32 → Sg → Option (Int32 × Sg)) (v1 : Int32) (v2 : Int32) (v3 : Int32) (σ : Sg) : Option (Int32 × Sg) :=
  if 5 ≤ v3 then gd (nbB v2) (some (v2, σ)) else bd (m_powerBy_117 v1 v3 σ) fun r1 σ1 => gd (inB v3 5) (if r1 = (σ1.1 130 v3.toNatClampNeg) then m_isWanted_117_b30 k4 v1 v3 v2 1 σ1 else m_isWanted_117_b30 k4 v1 v3 v2 0 σ1)
def m_isWanted_117_L4 : Nat → Int32 → Int32 → Int32 → Sg → Option (Int32 × Sg)
  | 0, _, _, _, _ => none
  | n + 1, v1, v2, v3, σ => m_isWanted_117_H4 (m_isWanted_117_L4 n) v1 v2 v3 σ
def m_isWanted_117 (v1 : Int32) (σ : Sg) : Option (Int32 × Sg) :=
  m_isWanted_117_L4 fu v1 1 0 σ
def m_fills_117_H13 (rs : Int32 → Int32 → Sg → Option (Int32 × Sg)) (k13 : Int32 → Int32 → Int32 → Sg → Option (Int32 × Sg)) (v1 : Int32) (v2 : Int32) (v3 : Int32) (σ : Sg) : Option (Int32 × Sg) :=
  if (2 * (σ.1 118 0)) ≤ v3 then some (0, σ) else gd (inB v1 3) (bd (rs (v1 + 1) v2 (si σ 129 v1.toNatClampNeg v3)) fun r2 σ2 => if r2 = 0 then k13 v1 v2 (v3 + 1) σ2 else some (1, σ2))
def m_fills_117_L13 (rs : Int32 → Int32 → Sg → Option (Int32 × Sg)) : Nat → Int32 → Int32 → Int32 → Sg → Option (Int32 × Sg)
  | 0, _, _, _, _ => none
  | n + 1, v1, v2, v3, σ => m_fills_117_H13 rs (m_fills_117_L13 rs n) v1 v2 v3 σ
def m_fills_117_H (rs : Int32 → Int32 → Sg → Option (Int32 × Sg)) (v1 : Int32) (v2 : Int32) (σ : Sg) : Option (Int32 × Sg) :=
  if v1 = v2 then bd (m_isWanted_117 v2 σ) fun r1 σ1 => gd (nbB r1) (some (r1, σ1)) else m_fills_117_L13 rs fu v1 v2 0 σ
def m_fills_117 : Nat → Int32 → Int32 → Sg → Option (Int32 × Sg)
  | 0, _, _, _ => none
  | n + 1, v1, v2, σ => m_fills_117_H (m_fills_117 n) v1 v2 σ
def m_fewestOf_117_b40 (s0 : Int32) (σ : Sg) : Option (Int32 × Sg) :=
  some (s0, σ)
def m_fewestOf_117_H2 (k2 : Int32 → Int32 → Sg → Option (Int32 × Sg)) (v1 : Int32) (v2 : Int32) (σ : Sg) : Option (Int32 × Sg) :=
  if 3 < v2 then some ((-9), σ) else bd (m_fills_117 12 0 v2 σ) fun r1 σ1 => if r1 = 0 then k2 v1 (v2 + 1) σ1 else if 0 ≤ v1 then if v2 ≤ v1 then m_fewestOf_117_b40 (-9) σ1 else gd (inB v1 3) (m_fewestOf_117_b40 (σ1.1 129 v1.toNatClampNeg) σ1) else m_fewestOf_117_b40 v2 σ1
def m_fewestOf_117_L2 : Nat → Int32 → Int32 → Sg → Option (Int32 × Sg)
  | 0, _, _, _ => none
  | n + 1, v1, v2, σ => m_fewestOf_117_H2 (m_fewestOf_117_L2 n) v1 v2 σ
def m_fewestOf_117 (v1 : Int32) (σ : Sg) : Option (Int32 × Sg) :=
  m_fewestOf_117_L2 fu v1 0 σ
def m_fewest_117_H57 (k57 : Int32 → Int32 → Sg → Option (Int32 × Sg)) (v2 : Int32) (v3 : Int32) (σ : Sg) : Option (Int32 × Sg) :=
  if 5 ≤ v3 then bd (m_fewestOf_117 v2 σ) fun r1 σ1 => some (r1, σ1) else gd (inB v3 8) (gd (inB v3 5) (k57 v2 (v3 + 1) (si σ 130 v3.toNatClampNeg (σ.1 128 v3.toNatClampNeg))))
def m_fewest_117_L57 : Nat → Int32 → Int32 → Sg → Option (Int32 × Sg)
  | 0, _, _, _ => none
  | n + 1, v2, v3, σ => m_fewest_117_H57 (m_fewest_117_L57 n) v2 v3 σ
def m_fewest_117 (v1 : Int32) (v2 : Int32) (σ : Sg) : Option (Int32 × Sg) :=
  bd (m_isList_s v1 σ) fun r1 σ1 => if r1 = 0 then bd (m_refuse_117 1 σ1) fun r10 σ10 => some (r10, σ10) else gd (inB v1 3) (if 0 ≤ (σ1.1 126 v1.toNatClampNeg) then bd (m_tells_117 v1 5 σ1) fun r3 σ3 => if r3 = 0 then bd (m_refuse_117 3 σ3) fun r6 σ6 => some (r6, σ6) else if (-1) ≤ v2 then m_fewest_117_L57 fu v2 0 σ3 else bd (m_refuse_117 4 σ3) fun r4 σ4 => some (r4, σ4) else bd (m_refuse_117 11 σ1) fun r8 σ8 => some (r8, σ8))
def m_differs_117_H3 (k3 : Int32 → Int64 → Int32 → Sg → Option (Int32 × Sg)) (v1 : Int32) (v2 : Int64) (v4 : Int32) (σ : Sg) : Option (Int32 × Sg) :=
  if v1 ≤ v4 then gd (inB v1 969) (some (v1 + 1, sl σ 131 v1.toNatClampNeg v2)) else gd (inB v4 969) (if (lg_cmp (σ.2 131 v4.toNatClampNeg) v2) = 0 then some (v1, σ) else k3 v1 v2 (v4 + 1) σ)
def m_differs_117_L3 : Nat → Int32 → Int64 → Int32 → Sg → Option (Int32 × Sg)
  | 0, _, _, _, _ => none
  | n + 1, v1, v2, v4, σ => m_differs_117_H3 (m_differs_117_L3 n) v1 v2 v4 σ
def m_differs_117 (v1 : Int32) (v2 : Int64) (σ : Sg) : Option (Int32 × Sg) :=
  m_differs_117_L3 fu v1 v2 0 σ
def m_keyOf_117_H5 (k5 : Int32 → Int64 → Int32 → Sg → Option (Int64 × Sg)) (v1 : Int32) (v2 : Int64) (v4 : Int32) (σ : Sg) : Option (Int64 × Sg) :=
  if 5 ≤ v4 then some (v2, σ) else bd (m_powerBy_117 v1 v4 σ) fun r1 σ1 => k5 v1 ((1000 * v2) + r1.toInt64) (v4 + 1) σ1
def m_keyOf_117_L5 : Nat → Int32 → Int64 → Int32 → Sg → Option (Int64 × Sg)
  | 0, _, _, _, _ => none
  | n + 1, v1, v2, v4, σ => m_keyOf_117_H5 (m_keyOf_117_L5 n) v1 v2 v4 σ
def m_keyOf_117 (v1 : Int32) (σ : Sg) : Option (Int64 × Sg) :=
  m_keyOf_117_L5 fu v1 0 0 σ
def m_adds_117_H37 (rs : Int32 → Int32 → Int32 → Sg → Option (Int32 × Sg)) (k37 : Int32 → Int32 → Int32 → Int32 → Sg → Option (Int32 × Sg)) (v1 : Int32) (v2 : Int32) (v4 : Int32) (v5 : Int32) (σ : Sg) : Option (Int32 × Sg) :=
  if (2 * (σ.1 118 0)) ≤ v5 then some (v4, σ) else gd (inB v1 3) (bd (rs (v1 + 1) v2 v4 (si σ 129 v1.toNatClampNeg v5)) fun r2 σ2 => k37 v1 v2 r2 (v5 + 1) σ2)
def m_adds_117_L37 (rs : Int32 → Int32 → Int32 → Sg → Option (Int32 × Sg)) : Nat → Int32 → Int32 → Int32 → Int32 → Sg → Option (Int32 × Sg)
  | 0, _, _, _, _, _ => none
  | n + 1, v1, v2, v4, v5, σ => m_adds_117_H37 rs (m_adds_117_L37 rs n) v1 v2 v4 v5 σ
def m_adds_117_b35 (rs : Int32 → Int32 → Int32 → Sg → Option (Int32 × Sg)) (v1 : Int32) (v2 : Int32) (v4 : Int32) (s0 : Int32) (σ : Sg) : Option (Int32 × Sg) :=
  m_adds_117_L37 rs fu v1 v2 v4 s0 σ
def m_adds_117_H (rs : Int32 → Int32 → Int32 → Sg → Option (Int32 × Sg)) (v1 : Int32) (v2 : Int32) (v3 : Int32) (σ : Sg) : Option (Int32 × Sg) :=
  if v1 = v2 then bd (m_keyOf_117 v2 σ) fun r3 σ3 => bd (m_differs_117 v3 r3 σ3) fun r4 σ4 => some (r4, σ4) else if v1 = 0 then m_adds_117_b35 rs v1 v2 v3 0 σ else gd (inB (v1 - 1) 3) (m_adds_117_b35 rs v1 v2 v3 (σ.1 129 (v1 - 1).toNatClampNeg) σ)
def m_adds_117 : Nat → Int32 → Int32 → Int32 → Sg → Option (Int32 × Sg)
  | 0, _, _, _, _ => none
  | n + 1, v1, v2, v3, σ => m_adds_117_H (m_adds_117 n) v1 v2 v3 σ
def m_had_117_H26 (k26 : Int32 → Int32 → Int32 → Sg → Option (Int32 × Sg)) (v1 : Int32) (v2 : Int32) (v3 : Int32) (σ : Sg) : Option (Int32 × Sg) :=
  if v1 < v3 then some (v2, σ) else bd (m_adds_117 12 0 v3 v2 σ) fun r1 σ1 => k26 v1 r1 (v3 + 1) σ1
def m_had_117_L26 : Nat → Int32 → Int32 → Int32 → Sg → Option (Int32 × Sg)
  | 0, _, _, _, _ => none
  | n + 1, v1, v2, v3, σ => m_had_117_H26 (m_had_117_L26 n) v1 v2 v3 σ
def m_had_117 (v1 : Int32) (σ : Sg) : Option (Int32 × Sg) :=
  if 0 ≤ v1 then if v1 ≤ 3 then m_had_117_L26 fu v1 0 0 σ else bd (m_refuse_117 6 σ) fun r1 σ1 => some (r1, σ1) else bd (m_refuse_117 4 σ) fun r3 σ3 => some (r3, σ3)
def m_here_117_b24 (s0 : Int32) (σ : Sg) : Option (Int32 × Sg) :=
  some (s0, σ)
def m_here_117 (σ : Sg) : Option (Int32 × Sg) :=
  if (σ.1 117 5) ≤ (σ.1 117 17) then m_here_117_b24 (-1) σ else gd (inB (σ.1 117 17) 72) (m_here_117_b24 (σ.1 121 (σ.1 117 17).toNatClampNeg) σ)
def m_isSigned_117_b21 (s0 : Int32) (σ : Sg) : Option (Int32 × Sg) :=
  gd (nbB s0) (some (s0, σ))
def m_isSigned_117_b16 (σ : Sg) : Option (Int32 × Sg) :=
  m_isSigned_117_b21 1 σ
def m_isSigned_117 (v1 : Int32) (v2 : Int32) (σ : Sg) : Option (Int32 × Sg) :=
  bd (m_here_117 σ) fun r1 σ1 => if r1 = v1 then m_isSigned_117_b16 σ1 else bd (m_here_117 σ1) fun r2 σ2 => if r2 = v2 then m_isSigned_117_b16 σ2 else m_isSigned_117_b21 0 σ2
def m_isDigit_117 (σ : Sg) : Option (Int32 × Sg) :=
  bd (m_here_117 σ) fun r1 σ1 => bd (m_isIn_s r1.toInt64 48 57 σ1) fun r2 σ2 => gd (nbB r2) (some (r2, σ2))
def m_readsClosed_117_b18 (rs : Sg → Option (Int32 × Sg)) (σ : Sg) : Option (Int32 × Sg) :=
  some (0, σ)
def m_readsClosed_117_b56 (rs : Sg → Option (Int32 × Sg)) (σ : Sg) : Option (Int32 × Sg) :=
  some (0, σ)
def m_readsClosed_117 (rs : Sg → Option (Int32 × Sg)) (σ : Sg) : Option (Int32 × Sg) :=
  bd (m_here_117 σ) fun r1 σ1 => if r1 = 40 then if (σ1.1 117 18) = 6 then m_readsClosed_117_b18 rs σ1 else bd (rs (si (si σ1 117 18 ((σ1.1 117 18) + 1)) 117 17 (((si σ1 117 18 ((σ1.1 117 18) + 1)).1 117 17) + 1))) fun r2 σ2 => if r2 = 0 then m_readsClosed_117_b56 rs σ2 else bd (m_here_117 σ2) fun r3 σ3 => if r3 = 41 then some (1, si (si σ3 117 18 ((σ3.1 117 18) - 1)) 117 17 (((si σ3 117 18 ((σ3.1 117 18) - 1)).1 117 17) + 1)) else m_readsClosed_117_b56 rs σ3 else m_readsClosed_117_b18 rs σ1
def m_readsAtom_117_b107 (rs : Sg → Option (Int32 × Sg)) (σ : Sg) : Option (Int32 × Sg) :=
  bd (m_readsClosed_117 rs σ) fun r1 σ1 => gd (nbB r1) (some (r1, σ1))
def m_readsAtom_117_b75 (rs : Sg → Option (Int32 × Sg)) (σ : Sg) : Option (Int32 × Sg) :=
  some (1, σ)
def m_readsAtom_117_H47 (rs : Sg → Option (Int32 × Sg)) (k47 : Int32 → Sg → Option (Int32 × Sg)) (v1 : Int32) (σ : Sg) : Option (Int32 × Sg) :=
  if 3 ≤ v1 then m_readsAtom_117_b75 rs σ else bd (m_isDigit_117 σ) fun r1 σ1 => if r1 = 0 then m_readsAtom_117_b75 rs σ1 else k47 (v1 + 1) (si σ1 117 17 ((σ1.1 117 17) + 1))
def m_readsAtom_117_L47 (rs : Sg → Option (Int32 × Sg)) : Nat → Int32 → Sg → Option (Int32 × Sg)
  | 0, _, _ => none
  | n + 1, v1, σ => m_readsAtom_117_H47 rs (m_readsAtom_117_L47 rs n) v1 σ
def m_readsAtom_117 (rs : Sg → Option (Int32 × Sg)) (σ : Sg) : Option (Int32 × Sg) :=
  bd (m_here_117 σ) fun r1 σ1 => bd (m_isIn_s r1.toInt64 65 (((65 + (σ1.1 118 0)) - 1).toInt64) σ1) fun r2 σ2 => if r2 = 0 then bd (m_isDigit_117 σ2) fun r3 σ3 => if r3 = 0 then bd (m_here_117 σ3) fun r4 σ4 => if r4 = 115 then if (σ4.1 117 18) = 6 then some (0, σ4) else m_readsAtom_117_b107 rs (si σ4 117 17 ((σ4.1 117 17) + 1)) else m_readsAtom_117_b107 rs σ4 else m_readsAtom_117_L47 rs fu 0 σ3 else some (1, si σ2 117 17 ((σ2.1 117 17) + 1))
def m_readsPart_117_b72 (rs : Sg → Option (Int32 × Sg)) (v1 : Int32) (s1 : Int32) (s2 : Int32) (σ : Sg) : Option (Int32 × Sg) :=
  gd (nbB v1) (some (v1, si σ 117 17 (s1 + s2)))
def m_readsPart_117_b49 (rs : Sg → Option (Int32 × Sg)) (s1 : Int32) (s2 : Int32) (σ : Sg) : Option (Int32 × Sg) :=
  bd (m_isDigit_117 (si σ 117 17 (s1 + s2))) fun r1 σ1 => if r1 = 0 then m_readsPart_117_b72 rs r1 (σ1.1 117 17) 0 σ1 else m_readsPart_117_b72 rs r1 (σ1.1 117 17) 1 σ1
def m_readsPart_117 (rs : Sg → Option (Int32 × Sg)) (σ : Sg) : Option (Int32 × Sg) :=
  bd (m_readsAtom_117 rs σ) fun r1 σ1 => if r1 = 0 then some (0, σ1) else bd (m_here_117 σ1) fun r2 σ2 => if r2 = 94 then bd (m_here_117 (si σ2 117 17 ((σ2.1 117 17) + 1))) fun r3 σ3 => if r3 = 45 then m_readsPart_117_b49 rs ((si σ2 117 17 ((σ2.1 117 17) + 1)).1 117 17) 1 σ3 else m_readsPart_117_b49 rs ((si σ2 117 17 ((σ2.1 117 17) + 1)).1 117 17) 0 σ3 else some (1, σ2)
def m_readsTerm_117_H19 (rs : Sg → Option (Int32 × Sg)) (k19 : Sg → Option (Int32 × Sg)) (σ : Sg) : Option (Int32 × Sg) :=
  bd (m_isSigned_117 42 47 σ) fun r1 σ1 => if r1 = 0 then some (1, σ1) else bd (m_readsPart_117 rs (si σ1 117 17 ((σ1.1 117 17) + 1))) fun r2 σ2 => if r2 = 0 then some (0, σ2) else k19 σ2
def m_readsTerm_117_L19 (rs : Sg → Option (Int32 × Sg)) : Nat → Sg → Option (Int32 × Sg)
  | 0, _ => none
  | n + 1, σ => m_readsTerm_117_H19 rs (m_readsTerm_117_L19 rs n) σ
def m_readsTerm_117 (rs : Sg → Option (Int32 × Sg)) (σ : Sg) : Option (Int32 × Sg) :=
  bd (m_readsPart_117 rs (si σ 117 19 ((σ.1 117 19) + 1))) fun r1 σ1 => if r1 = 0 then some (0, σ1) else m_readsTerm_117_L19 rs fu σ1
def m_readsSum_117_H9 (rs : Sg → Option (Int32 × Sg)) (k9 : Sg → Option (Int32 × Sg)) (σ : Sg) : Option (Int32 × Sg) :=
  bd (m_isSigned_117 43 45 σ) fun r1 σ1 => if r1 = 0 then some (1, σ1) else bd (m_readsTerm_117 rs (si σ1 117 17 ((σ1.1 117 17) + 1))) fun r2 σ2 => if r2 = 0 then some (0, σ2) else k9 σ2
def m_readsSum_117_L9 (rs : Sg → Option (Int32 × Sg)) : Nat → Sg → Option (Int32 × Sg)
  | 0, _ => none
  | n + 1, σ => m_readsSum_117_H9 rs (m_readsSum_117_L9 rs n) σ
def m_readsSum_117_H (rs : Sg → Option (Int32 × Sg)) (σ : Sg) : Option (Int32 × Sg) :=
  bd (m_readsTerm_117 rs σ) fun r1 σ1 => if r1 = 0 then some (0, σ1) else m_readsSum_117_L9 rs fu σ1
def m_readsSum_117 : Nat → Sg → Option (Int32 × Sg)
  | 0, _ => none
  | n + 1, σ => m_readsSum_117_H (m_readsSum_117 n) σ
def m_readsBoth_117_b16 (σ : Sg) : Option (Int32 × Sg) :=
  some (0, σ)
def m_readsBoth_117_b51 (s0 : Int32) (σ : Sg) : Option (Int32 × Sg) :=
  gd (nbB s0) (some (s0, σ))
def m_readsBoth_117_b50 (σ : Sg) : Option (Int32 × Sg) :=
  m_readsBoth_117_b51 0 σ
def m_readsBoth_117 (σ : Sg) : Option (Int32 × Sg) :=
  bd (m_readsSum_117 12 σ) fun r1 σ1 => if r1 = 0 then m_readsBoth_117_b16 σ1 else bd (m_here_117 σ1) fun r2 σ2 => if r2 = 61 then bd (m_readsSum_117 12 (si σ2 117 17 ((σ2.1 117 17) + 1))) fun r3 σ3 => if r3 = 0 then m_readsBoth_117_b50 σ3 else if (σ3.1 117 17) = (σ3.1 117 5) then m_readsBoth_117_b51 1 σ3 else m_readsBoth_117_b50 σ3 else m_readsBoth_117_b16 σ2
def m_formula_117_b101 (s0 : Int32) (σ : Sg) : Option (Int32 × Sg) :=
  some (s0, σ)
def m_formula_117_b77 (v1 : Int32) (σ : Sg) : Option (Int32 × Sg) :=
  if v1 = 0 then m_formula_117_b101 ((-1000) - ((si σ 117 5 0).1 117 17)) (si σ 117 5 0) else m_formula_117_b101 ((si σ 117 5 0).1 117 19) (si σ 117 5 0)
def m_formula_117_H48 (k48 : Int32 → Int32 → Sg → Option (Int32 × Sg)) (v1 : Int32) (v2 : Int32) (σ : Sg) : Option (Int32 × Sg) :=
  if (σ.1 117 5) ≤ v2 then m_formula_117_b77 v1 σ else gd (inB v2 72) (gd (inB (67 + v2) 139) (k48 v1 (v2 + 1) (si σ 118 (67 + v2).toNatClampNeg (σ.1 121 v2.toNatClampNeg))))
def m_formula_117_L48 : Nat → Int32 → Int32 → Sg → Option (Int32 × Sg)
  | 0, _, _, _ => none
  | n + 1, v1, v2, σ => m_formula_117_H48 (m_formula_117_L48 n) v1 v2 σ
def m_formula_117 (σ : Sg) : Option (Int32 × Sg) :=
  bd (m_readsBoth_117 (si (si (si σ 117 17 0) 117 18 0) 117 19 0)) fun r1 σ1 => if r1 = 0 then m_formula_117_b77 r1 σ1 else m_formula_117_L48 fu r1 0 (si (si σ1 118 65 (σ1.1 117 19)) 118 66 ((si σ1 118 65 (σ1.1 117 19)).1 117 5))
def m_sign_117_b30 (s0 : Int32) (σ : Sg) : Option (Int32 × Sg) :=
  some (s0, σ)
def m_sign_117 (σ : Sg) : Option (Int32 × Sg) :=
  if (σ.1 118 66) ≤ (σ.1 117 23) then m_sign_117_b30 (-1) σ else gd (inB (67 + (σ.1 117 23)) 139) (m_sign_117_b30 (σ.1 118 (67 + (σ.1 117 23)).toNatClampNeg) σ)
def m_isPureAt_117_b28 (k4 : Int32 → Int32 → Int32 → Sg → Option (Int32 × Sg)) (v1 : Int32) (v3 : Int32) (s0 : Int32) (s1 : Int32) (σ : Sg) : Option (Int32 × Sg) :=
  k4 v1 (s0 &&& s1) (v3 + 1) σ
def m_isPureAt_117_H4 (k4 : Int32 → Int32 → Int32 → Sg → Option (Int32 × Sg)) (v1 : Int32) (v2 : Int32) (v3 : Int32) (σ : Sg) : Option (Int32 × Sg) :=
  if 5 ≤ v3 then gd (nbB v2) (some (v2, σ)) else gd (inB ((5 * v1) + v3) 200) (if (σ.1 132 ((5 * v1) + v3).toNatClampNeg) = 0 then m_isPureAt_117_b28 k4 v1 v3 v2 1 σ else m_isPureAt_117_b28 k4 v1 v3 v2 0 σ)
def m_isPureAt_117_L4 : Nat → Int32 → Int32 → Int32 → Sg → Option (Int32 × Sg)
  | 0, _, _, _, _ => none
  | n + 1, v1, v2, v3, σ => m_isPureAt_117_H4 (m_isPureAt_117_L4 n) v1 v2 v3 σ
def m_isPureAt_117 (v1 : Int32) (σ : Sg) : Option (Int32 × Sg) :=
  m_isPureAt_117_L4 fu v1 1 0 σ
def m_sets2_117_H2 (k2 : Int32 → Int32 → Int32 → Sg → Option (Unit × Sg)) (v1 : Int32) (v2 : Int32) (v3 : Int32) (σ : Sg) : Option (Unit × Sg) :=
  if 5 ≤ v3 then some ((), σ) else gd (inB ((5 * v1) + v3) 200) (k2 v1 v2 (v3 + 1) (si σ 132 ((5 * v1) + v3).toNatClampNeg v2))
def m_sets2_117_L2 : Nat → Int32 → Int32 → Int32 → Sg → Option (Unit × Sg)
  | 0, _, _, _, _ => none
  | n + 1, v1, v2, v3, σ => m_sets2_117_H2 (m_sets2_117_L2 n) v1 v2 v3 σ
def m_sets2_117 (v1 : Int32) (v2 : Int32) (σ : Sg) : Option (Unit × Sg) :=
  m_sets2_117_L2 fu v1 v2 0 σ
def m_atom_117_b210 (rs : Int32 → Sg → Option (Unit × Sg)) (σ : Sg) : Option (Unit × Sg) :=
  some ((), σ)
def m_atom_117_H180 (rs : Int32 → Sg → Option (Unit × Sg)) (k180 : Sg → Option (Unit × Sg)) (σ : Sg) : Option (Unit × Sg) :=
  bd (m_sign_117 σ) fun r1 σ1 => bd (m_isIn_s r1.toInt64 48 57 σ1) fun r2 σ2 => if r2 = 0 then m_atom_117_b210 rs σ2 else k180 (si σ2 117 23 ((σ2.1 117 23) + 1))
def m_atom_117_L180 (rs : Int32 → Sg → Option (Unit × Sg)) : Nat → Sg → Option (Unit × Sg)
  | 0, _ => none
  | n + 1, σ => m_atom_117_H180 rs (m_atom_117_L180 rs n) σ
def m_atom_117_b169 (rs : Int32 → Sg → Option (Unit × Sg)) (v1 : Int32) (s1 : Int32) (s2 : Int32) (s3 : Int32) (σ : Sg) : Option (Unit × Sg) :=
  gd (inB s1 72) (bd (m_sets2_117 v1 0 (si σ 134 s1.toNatClampNeg ((s2 ||| s3) &&& 1))) fun _ σ2 => m_atom_117_b210 rs σ2)
def m_atom_117_H58 (rs : Int32 → Sg → Option (Unit × Sg)) (k58 : Int32 → Int32 → Int32 → Sg → Option (Unit × Sg)) (v1 : Int32) (v2 : Int32) (v4 : Int32) (σ : Sg) : Option (Unit × Sg) :=
  if 5 ≤ v4 then m_atom_117_b210 rs σ else bd (m_powerOf_117 (v2 - 65) v4 σ) fun r1 σ1 => gd (inB ((5 * v1) + v4) 200) (k58 v1 v2 (v4 + 1) (si σ1 132 ((5 * v1) + v4).toNatClampNeg r1))
def m_atom_117_L58 (rs : Int32 → Sg → Option (Unit × Sg)) : Nat → Int32 → Int32 → Int32 → Sg → Option (Unit × Sg)
  | 0, _, _, _, _ => none
  | n + 1, v1, v2, v4, σ => m_atom_117_H58 rs (m_atom_117_L58 rs n) v1 v2 v4 σ
def m_atom_117 (rs : Int32 → Sg → Option (Unit × Sg)) (v1 : Int32) (σ : Sg) : Option (Unit × Sg) :=
  bd (m_sign_117 σ) fun r1 σ1 => bd (m_sets2_117 v1 0 (si σ1 117 23 ((σ1.1 117 23) + 1))) fun _ σ2 => bd (m_isIn_s r1.toInt64 65 90 σ2) fun r3 σ3 => if r3 = 0 then if r1 = 40 then bd (rs v1 σ3) fun _ σ9 => m_atom_117_b210 rs (si σ9 117 23 ((σ9.1 117 23) + 1)) else if r1 = 115 then bd (rs v1 (si σ3 117 23 ((σ3.1 117 23) + 1))) fun _ σ4 => gd (inB (σ1.1 117 23) 72) (bd (m_isPureAt_117 v1 (si σ4 117 23 ((σ4.1 117 23) + 1))) fun r6 σ6 => if r6 = 0 then m_atom_117_b169 rs v1 (σ1.1 117 23) ((si σ4 117 23 ((σ4.1 117 23) + 1)).1 134 (σ1.1 117 23).toNatClampNeg) 1 σ6 else m_atom_117_b169 rs v1 (σ1.1 117 23) ((si σ4 117 23 ((σ4.1 117 23) + 1)).1 134 (σ1.1 117 23).toNatClampNeg) 0 σ6) else m_atom_117_L180 rs fu σ3 else m_atom_117_L58 rs fu v1 r1 0 (si σ3 117 24 ((σ3.1 117 24) ||| ((1 : Int32) <<< ((r1 - 65) &&& 31))))
def m_part_117_H80 (rs : Int32 → Sg → Option (Unit × Sg)) (k80 : Int32 → Int32 → Int32 → Sg → Option (Unit × Sg)) (v1 : Int32) (v2 : Int32) (v3 : Int32) (σ : Sg) : Option (Unit × Sg) :=
  if 5 ≤ v3 then some ((), σ) else gd (inB ((5 * v1) + v3) 200) (gd (inB ((5 * v1) + v3) 200) (k80 v1 v2 (v3 + 1) (si σ 132 ((5 * v1) + v3).toNatClampNeg ((σ.1 132 ((5 * v1) + v3).toNatClampNeg) * v2))))
def m_part_117_L80 (rs : Int32 → Sg → Option (Unit × Sg)) : Nat → Int32 → Int32 → Int32 → Sg → Option (Unit × Sg)
  | 0, _, _, _, _ => none
  | n + 1, v1, v2, v3, σ => m_part_117_H80 rs (m_part_117_L80 rs n) v1 v2 v3 σ
def m_part_117_b54 (rs : Int32 → Sg → Option (Unit × Sg)) (v1 : Int32) (v2 : Int32) (s1 : Int32) (s2 : Int32) (σ : Sg) : Option (Unit × Sg) :=
  bd (m_sign_117 (si σ 117 23 (s1 + s2))) fun r1 σ1 => m_part_117_L80 rs fu v1 (v2 * (r1 - 48)) 0 (si σ1 117 23 ((σ1.1 117 23) + 1))
def m_part_117_b39 (rs : Int32 → Sg → Option (Unit × Sg)) (v1 : Int32) (s0 : Int32) (σ : Sg) : Option (Unit × Sg) :=
  if 0 ≤ s0 then m_part_117_b54 rs v1 s0 (σ.1 117 23) 0 σ else m_part_117_b54 rs v1 s0 (σ.1 117 23) 1 σ
def m_part_117 (rs : Int32 → Sg → Option (Unit × Sg)) (v1 : Int32) (σ : Sg) : Option (Unit × Sg) :=
  bd (m_atom_117 rs v1 σ) fun _ σ1 => bd (m_sign_117 σ1) fun r2 σ2 => if r2 = 94 then bd (m_sign_117 (si σ2 117 23 ((σ2.1 117 23) + 1))) fun r3 σ3 => if r3 = 45 then m_part_117_b39 rs v1 (-1) σ3 else m_part_117_b39 rs v1 1 σ3 else some ((), σ2)
def m_term_117_H57 (rs : Int32 → Sg → Option (Unit × Sg)) (k5 : Int32 → Sg → Option (Unit × Sg)) (k57 : Int32 → Int32 → Int32 → Sg → Option (Unit × Sg)) (v1 : Int32) (v2 : Int32) (v3 : Int32) (σ : Sg) : Option (Unit × Sg) :=
  if 5 ≤ v3 then k5 v1 σ else gd (inB ((5 * v1) + v3) 200) (gd (inB ((5 * (v1 + 1)) + v3) 200) (gd (inB ((5 * v1) + v3) 200) (k57 v1 v2 (v3 + 1) (si σ 132 ((5 * v1) + v3).toNatClampNeg ((σ.1 132 ((5 * v1) + v3).toNatClampNeg) + (v2 * (σ.1 132 ((5 * (v1 + 1)) + v3).toNatClampNeg)))))))
def m_term_117_L57 (rs : Int32 → Sg → Option (Unit × Sg)) (k5 : Int32 → Sg → Option (Unit × Sg)) : Nat → Int32 → Int32 → Int32 → Sg → Option (Unit × Sg)
  | 0, _, _, _, _ => none
  | n + 1, v1, v2, v3, σ => m_term_117_H57 rs k5 (m_term_117_L57 rs k5 n) v1 v2 v3 σ
def m_term_117_b37 (rs : Int32 → Sg → Option (Unit × Sg)) (k5 : Int32 → Sg → Option (Unit × Sg)) (v1 : Int32) (s0 : Int32) (σ : Sg) : Option (Unit × Sg) :=
  bd (m_part_117 rs (v1 + 1) (si σ 117 23 ((σ.1 117 23) + 1))) fun _ σ1 => m_term_117_L57 rs k5 fu v1 s0 0 σ1
def m_term_117_b23 (rs : Int32 → Sg → Option (Unit × Sg)) (k5 : Int32 → Sg → Option (Unit × Sg)) (v1 : Int32) (σ : Sg) : Option (Unit × Sg) :=
  bd (m_sign_117 σ) fun r1 σ1 => if r1 = 42 then m_term_117_b37 rs k5 v1 1 σ1 else m_term_117_b37 rs k5 v1 (-1) σ1
def m_term_117_H5 (rs : Int32 → Sg → Option (Unit × Sg)) (k5 : Int32 → Sg → Option (Unit × Sg)) (v1 : Int32) (σ : Sg) : Option (Unit × Sg) :=
  bd (m_sign_117 σ) fun r1 σ1 => if r1 = 42 then m_term_117_b23 rs k5 v1 σ1 else bd (m_sign_117 σ1) fun r2 σ2 => if r2 = 47 then m_term_117_b23 rs k5 v1 σ2 else some ((), σ2)
def m_term_117_L5 (rs : Int32 → Sg → Option (Unit × Sg)) : Nat → Int32 → Sg → Option (Unit × Sg)
  | 0, _, _ => none
  | n + 1, v1, σ => m_term_117_H5 rs (m_term_117_L5 rs n) v1 σ
def m_term_117 (rs : Int32 → Sg → Option (Unit × Sg)) (v1 : Int32) (σ : Sg) : Option (Unit × Sg) :=
  bd (m_part_117 rs v1 σ) fun _ σ1 => m_term_117_L5 rs fu v1 σ1
def m_sum_117_b89 (rs : Int32 → Sg → Option (Unit × Sg)) (k5 : Int32 → Sg → Option (Unit × Sg)) (k47 : Int32 → Int32 → Int32 → Sg → Option (Unit × Sg)) (v1 : Int32) (v2 : Int32) (v3 : Int32) (s1 : Int32) (s2 : Int32) (s3 : Int32) (σ : Sg) : Option (Unit × Sg) :=
  gd (inB s1 72) (k47 v1 v2 (v3 + 1) (si σ 134 s1.toNatClampNeg ((s2 ||| s3) &&& 1)))
def m_sum_117_H47 (rs : Int32 → Sg → Option (Unit × Sg)) (k5 : Int32 → Sg → Option (Unit × Sg)) (k47 : Int32 → Int32 → Int32 → Sg → Option (Unit × Sg)) (v1 : Int32) (v2 : Int32) (v3 : Int32) (σ : Sg) : Option (Unit × Sg) :=
  if 5 ≤ v3 then k5 v1 σ else gd (inB v2 72) (gd (inB ((5 * v1) + v3) 200) (gd (inB ((5 * (v1 + 1)) + v3) 200) (if (σ.1 132 ((5 * v1) + v3).toNatClampNeg) = (σ.1 132 ((5 * (v1 + 1)) + v3).toNatClampNeg) then m_sum_117_b89 rs k5 k47 v1 v2 v3 v2 (σ.1 134 v2.toNatClampNeg) 0 σ else m_sum_117_b89 rs k5 k47 v1 v2 v3 v2 (σ.1 134 v2.toNatClampNeg) 1 σ)))
def m_sum_117_L47 (rs : Int32 → Sg → Option (Unit × Sg)) (k5 : Int32 → Sg → Option (Unit × Sg)) : Nat → Int32 → Int32 → Int32 → Sg → Option (Unit × Sg)
  | 0, _, _, _, _ => none
  | n + 1, v1, v2, v3, σ => m_sum_117_H47 rs k5 (m_sum_117_L47 rs k5 n) v1 v2 v3 σ
def m_sum_117_b23 (rs : Int32 → Sg → Option (Unit × Sg)) (k5 : Int32 → Sg → Option (Unit × Sg)) (v1 : Int32) (σ : Sg) : Option (Unit × Sg) :=
  bd (m_term_117 rs (v1 + 1) (si σ 117 23 ((σ.1 117 23) + 1))) fun _ σ1 => m_sum_117_L47 rs k5 fu v1 ((si σ 117 23 ((σ.1 117 23) + 1)).1 117 23) 0 σ1
def m_sum_117_H5 (rs : Int32 → Sg → Option (Unit × Sg)) (k5 : Int32 → Sg → Option (Unit × Sg)) (v1 : Int32) (σ : Sg) : Option (Unit × Sg) :=
  bd (m_sign_117 σ) fun r1 σ1 => if r1 = 43 then m_sum_117_b23 rs k5 v1 σ1 else bd (m_sign_117 σ1) fun r2 σ2 => if r2 = 45 then m_sum_117_b23 rs k5 v1 σ2 else some ((), σ2)
def m_sum_117_L5 (rs : Int32 → Sg → Option (Unit × Sg)) : Nat → Int32 → Sg → Option (Unit × Sg)
  | 0, _, _ => none
  | n + 1, v1, σ => m_sum_117_H5 rs (m_sum_117_L5 rs n) v1 σ
def m_sum_117_H (rs : Int32 → Sg → Option (Unit × Sg)) (v1 : Int32) (σ : Sg) : Option (Unit × Sg) :=
  bd (m_term_117 rs v1 σ) fun _ σ1 => m_sum_117_L5 rs fu v1 σ1
def m_sum_117 : Nat → Int32 → Sg → Option (Unit × Sg)
  | 0, _, _ => none
  | n + 1, v1, σ => m_sum_117_H (m_sum_117 n) v1 σ
def m_goesThrough_117_b139 (k102 : Int32 → Sg → Option (Unit × Sg)) (v1 : Int32) (s1 : Int32) (s2 : Int32) (s3 : Int32) (σ : Sg) : Option (Unit × Sg) :=
  gd (inB s1 72) (k102 (v1 + 1) (si σ 134 s1.toNatClampNeg ((s2 ||| s3) &&& 1)))
def m_goesThrough_117_H102 (k102 : Int32 → Sg → Option (Unit × Sg)) (v1 : Int32) (σ : Sg) : Option (Unit × Sg) :=
  if 5 ≤ v1 then some ((), σ) else gd (inB (σ.1 117 25) 72) (gd (inB v1 10) (gd (inB (5 + v1) 10) (if (σ.1 133 v1.toNatClampNeg) = (σ.1 133 (5 + v1).toNatClampNeg) then m_goesThrough_117_b139 k102 v1 (σ.1 117 25) (σ.1 134 (σ.1 117 25).toNatClampNeg) 0 σ else m_goesThrough_117_b139 k102 v1 (σ.1 117 25) (σ.1 134 (σ.1 117 25).toNatClampNeg) 1 σ)))
def m_goesThrough_117_L102 : Nat → Int32 → Sg → Option (Unit × Sg)
  | 0, _, _ => none
  | n + 1, v1, σ => m_goesThrough_117_H102 (m_goesThrough_117_L102 n) v1 σ
def m_goesThrough_117_b84 (k33 : Int32 → Sg → Option (Unit × Sg)) (v1 : Int32) (σ : Sg) : Option (Unit × Sg) :=
  k33 (v1 + 1) (si σ 117 23 ((σ.1 117 23) + 1))
def m_goesThrough_117_H45 (k33 : Int32 → Sg → Option (Unit × Sg)) (k45 : Int32 → Int32 → Sg → Option (Unit × Sg)) (v1 : Int32) (v2 : Int32) (σ : Sg) : Option (Unit × Sg) :=
  if 5 ≤ v2 then if v1 = 0 then m_goesThrough_117_b84 k33 v1 (si σ 117 25 (σ.1 117 23)) else m_goesThrough_117_b84 k33 v1 σ else gd (inB v2 200) (gd (inB ((5 * v1) + v2) 10) (k45 v1 (v2 + 1) (si σ 133 ((5 * v1) + v2).toNatClampNeg (σ.1 132 v2.toNatClampNeg))))
def m_goesThrough_117_L45 (k33 : Int32 → Sg → Option (Unit × Sg)) : Nat → Int32 → Int32 → Sg → Option (Unit × Sg)
  | 0, _, _, _ => none
  | n + 1, v1, v2, σ => m_goesThrough_117_H45 k33 (m_goesThrough_117_L45 k33 n) v1 v2 σ
def m_goesThrough_117_H33 (k33 : Int32 → Sg → Option (Unit × Sg)) (v1 : Int32) (σ : Sg) : Option (Unit × Sg) :=
  if 2 ≤ v1 then m_goesThrough_117_L102 fu 0 σ else bd (m_sum_117 12 0 σ) fun _ σ1 => m_goesThrough_117_L45 k33 fu v1 0 σ1
def m_goesThrough_117_L33 : Nat → Int32 → Sg → Option (Unit × Sg)
  | 0, _, _ => none
  | n + 1, v1, σ => m_goesThrough_117_H33 (m_goesThrough_117_L33 n) v1 σ
def m_goesThrough_117_H2 (k2 : Int32 → Sg → Option (Unit × Sg)) (v1 : Int32) (σ : Sg) : Option (Unit × Sg) :=
  if 72 ≤ v1 then m_goesThrough_117_L33 fu 0 (si (si σ 117 23 0) 117 24 0) else gd (inB v1 72) (k2 (v1 + 1) (si σ 134 v1.toNatClampNeg (0 &&& 1)))
def m_goesThrough_117_L2 : Nat → Int32 → Sg → Option (Unit × Sg)
  | 0, _, _ => none
  | n + 1, v1, σ => m_goesThrough_117_H2 (m_goesThrough_117_L2 n) v1 σ
def m_goesThrough_117 (σ : Sg) : Option (Unit × Sg) :=
  m_goesThrough_117_L2 fu 0 σ
def m_wrong_117_b114 (s0 : Int32) (σ : Sg) : Option (Int32 × Sg) :=
  some (s0, σ)
def m_wrong_117_b86 (k47 : Int32 → Int32 → Int32 → Int32 → Sg → Option (Int32 × Sg)) (v1 : Int32) (v2 : Int32) (v4 : Int32) (s0 : Int32) (σ : Sg) : Option (Int32 × Sg) :=
  k47 v1 v2 s0 (v4 + (-1)) σ
def m_wrong_117_b68 (k47 : Int32 → Int32 → Int32 → Int32 → Sg → Option (Int32 × Sg)) (v1 : Int32) (v3 : Int32) (v4 : Int32) (s0 : Int32) (s1 : Int32) (σ : Sg) : Option (Int32 × Sg) :=
  gd (inB v4 72) (if (σ.1 134 v4.toNatClampNeg) = 0 then m_wrong_117_b86 k47 v1 (s0 + s1) v4 v3 σ else m_wrong_117_b86 k47 v1 (s0 + s1) v4 v4 σ)
def m_wrong_117_H47 (k47 : Int32 → Int32 → Int32 → Int32 → Sg → Option (Int32 × Sg)) (v1 : Int32) (v2 : Int32) (v3 : Int32) (v4 : Int32) (σ : Sg) : Option (Int32 × Sg) :=
  if v4 < 0 then if v1 = 0 then m_wrong_117_b114 v3 σ else if v1 = 1 then m_wrong_117_b114 v2 σ else m_wrong_117_b114 (σ.1 117 24) σ else gd (inB v4 72) (if (σ.1 134 v4.toNatClampNeg) = 0 then m_wrong_117_b68 k47 v1 v3 v4 v2 0 σ else m_wrong_117_b68 k47 v1 v3 v4 v2 1 σ)
def m_wrong_117_L47 : Nat → Int32 → Int32 → Int32 → Int32 → Sg → Option (Int32 × Sg)
  | 0, _, _, _, _, _ => none
  | n + 1, v1, v2, v3, v4, σ => m_wrong_117_H47 (m_wrong_117_L47 n) v1 v2 v3 v4 σ
def m_wrong_117 (v1 : Int32) (σ : Sg) : Option (Int32 × Sg) :=
  bd (m_isIn_s v1.toInt64 0 2 σ) fun r1 σ1 => if r1 = 0 then bd (m_refuse_117 2 σ1) fun r5 σ5 => some (r5, σ5) else if (σ1.1 118 66) = 0 then bd (m_refuse_117 3 σ1) fun r3 σ3 => some (r3, σ3) else bd (m_goesThrough_117 σ1) fun _ σ2 => m_wrong_117_L47 fu v1 0 (-9) 71 σ2
def m_sides_117_b84 (s0 : Int32) (σ : Sg) : Option (Int32 × Sg) :=
  some (s0, σ)
def m_sides_117 (v1 : Int32) (v2 : Int32) (σ : Sg) : Option (Int32 × Sg) :=
  bd (m_isUnit_s v2 σ) fun r1 σ1 => if r1 = 0 then bd (m_refuseFar_117 1 σ1) fun r12 σ12 => some (r12, σ12) else bd (m_isIn_s v1.toInt64 0 2 σ1) fun r2 σ2 => if r2 = 0 then bd (m_refuseFar_117 2 σ2) fun r10 σ10 => some (r10, σ10) else if (σ2.1 118 66) = 0 then bd (m_refuseFar_117 3 σ2) fun r8 σ8 => some (r8, σ8) else bd (m_goesThrough_117 σ2) fun _ σ3 => if 2 ≤ v1 then gd (inB v2 10) (gd (inB (5 + v2) 10) (m_sides_117_b84 ((σ3.1 133 v2.toNatClampNeg) - (σ3.1 133 (5 + v2).toNatClampNeg)) σ3)) else gd (inB ((5 * v1) + v2) 10) (m_sides_117_b84 (σ3.1 133 ((5 * v1) + v2).toNatClampNeg) σ3)
def m_mend_117_H33 (k33 : Int32 → Int32 → Sg → Option (Int32 × Sg)) (v1 : Int32) (v2 : Int32) (σ : Sg) : Option (Int32 × Sg) :=
  if 5 ≤ v2 then bd (m_fewestOf_117 v1 σ) fun r1 σ1 => some (r1, σ1) else gd (inB v2 10) (gd (inB (5 + v2) 10) (gd (inB v2 5) (k33 v1 (v2 + 1) (si σ 130 v2.toNatClampNeg ((σ.1 133 v2.toNatClampNeg) - (σ.1 133 (5 + v2).toNatClampNeg))))))
def m_mend_117_L33 : Nat → Int32 → Int32 → Sg → Option (Int32 × Sg)
  | 0, _, _, _ => none
  | n + 1, v1, v2, σ => m_mend_117_H33 (m_mend_117_L33 n) v1 v2 σ
def m_mend_117 (v1 : Int32) (σ : Sg) : Option (Int32 × Sg) :=
  if (-1) ≤ v1 then if (σ.1 118 66) = 0 then bd (m_refuse_117 3 σ) fun r2 σ2 => some (r2, σ2) else bd (m_goesThrough_117 σ) fun _ σ1 => m_mend_117_L33 fu v1 0 σ1 else bd (m_refuse_117 4 σ) fun r4 σ4 => some (r4, σ4)
def m_draws_117 (v1 : Int32) (σ : Sg) : Option (Int32 × Sg) :=
  gd (neB v1) (some (irm ((((si σ 117 26 (((σ.1 117 26) * 1664525) + 1013904223)).1 117 26) &&& 2147483647) / 256) v1, si σ 117 26 (((σ.1 117 26) * 1664525) + 1013904223)))
def m_lots_117_b205 (s0 : Int32) (σ : Sg) : Option (Int32 × Sg) :=
  some (s0, σ)
def m_lots_117_b179 (k54 : Int32 → Int32 → Int32 → Int32 → Int32 → Sg → Option (Int32 × Sg)) (k114 : Int32 → Int32 → Int32 → Int32 → Int32 → Int32 → Sg → Option (Int32 × Sg)) (v1 : Int32) (v3 : Int32) (v4 : Int32) (v6 : Int32) (v7 : Int32) (s0 : Int32) (s1 : Int32) (σ : Sg) : Option (Int32 × Sg) :=
  k114 v1 v3 v4 (s0 + s1) v6 (v7 + 1) σ
def m_lots_117_H126 (k54 : Int32 → Int32 → Int32 → Int32 → Int32 → Sg → Option (Int32 × Sg)) (k114 : Int32 → Int32 → Int32 → Int32 → Int32 → Int32 → Sg → Option (Int32 × Sg)) (k126 : Int32 → Int32 → Int32 → Int32 → Int32 → Int32 → Int32 → Int32 → Sg → Option (Int32 × Sg)) (v1 : Int32) (v3 : Int32) (v4 : Int32) (v5 : Int32) (v6 : Int32) (v7 : Int32) (v8 : Int32) (v9 : Int32) (σ : Sg) : Option (Int32 × Sg) :=
  if (σ.1 118 0) ≤ v9 then if 0 ≤ v8 then m_lots_117_b179 k54 k114 v1 v3 v4 v6 v7 v5 v8 σ else m_lots_117_b179 k54 k114 v1 v3 v4 v6 v7 v5 (-v8) σ else gd (inB v9 8) (bd (m_powerOf_117 v9 v7 σ) fun r3 σ3 => k126 v1 v3 v4 v5 v6 v7 (v8 + ((σ.1 128 v9.toNatClampNeg) * r3)) (v9 + 1) σ3)
def m_lots_117_L126 (k54 : Int32 → Int32 → Int32 → Int32 → Int32 → Sg → Option (Int32 × Sg)) (k114 : Int32 → Int32 → Int32 → Int32 → Int32 → Int32 → Sg → Option (Int32 × Sg)) : Nat → Int32 → Int32 → Int32 → Int32 → Int32 → Int32 → Int32 → Int32 → Sg → Option (Int32 × Sg)
  | 0, _, _, _, _, _, _, _, _, _ => none
  | n + 1, v1, v3, v4, v5, v6, v7, v8, v9, σ => m_lots_117_H126 k54 k114 (m_lots_117_L126 k54 k114 n) v1 v3 v4 v5 v6 v7 v8 v9 σ
def m_lots_117_H114 (k54 : Int32 → Int32 → Int32 → Int32 → Int32 → Sg → Option (Int32 × Sg)) (k114 : Int32 → Int32 → Int32 → Int32 → Int32 → Int32 → Sg → Option (Int32 × Sg)) (v1 : Int32) (v3 : Int32) (v4 : Int32) (v5 : Int32) (v6 : Int32) (v7 : Int32) (σ : Sg) : Option (Int32 × Sg) :=
  if 5 ≤ v7 then k54 v1 v3 v4 v5 (v6 + 1) σ else m_lots_117_L126 k54 k114 fu v1 v3 v4 v5 v6 v7 0 0 σ
def m_lots_117_L114 (k54 : Int32 → Int32 → Int32 → Int32 → Int32 → Sg → Option (Int32 × Sg)) : Nat → Int32 → Int32 → Int32 → Int32 → Int32 → Int32 → Sg → Option (Int32 × Sg)
  | 0, _, _, _, _, _, _, _ => none
  | n + 1, v1, v3, v4, v5, v6, v7, σ => m_lots_117_H114 k54 (m_lots_117_L114 k54 n) v1 v3 v4 v5 v6 v7 σ
def m_lots_117_b108 (k54 : Int32 → Int32 → Int32 → Int32 → Int32 → Sg → Option (Int32 × Sg)) (v1 : Int32) (v3 : Int32) (v5 : Int32) (v6 : Int32) (s0 : Int32) (s1 : Int32) (σ : Sg) : Option (Int32 × Sg) :=
  m_lots_117_L114 k54 fu v1 v3 (s0 + s1) v5 v6 0 σ
def m_lots_117_H63 (k54 : Int32 → Int32 → Int32 → Int32 → Int32 → Sg → Option (Int32 × Sg)) (k63 : Int32 → Int32 → Int32 → Int32 → Int32 → Int32 → Sg → Option (Int32 × Sg)) (v1 : Int32) (v3 : Int32) (v4 : Int32) (v5 : Int32) (v6 : Int32) (v7 : Int32) (σ : Sg) : Option (Int32 × Sg) :=
  if (σ.1 118 0) ≤ v7 then bd (m_isToldPure_117 σ) fun r1 σ1 => if r1 = 0 then m_lots_117_b108 k54 v1 v3 v5 v6 v4 0 σ1 else m_lots_117_b108 k54 v1 v3 v5 v6 v4 1 σ1 else bd (m_draws_117 5 σ) fun r3 σ3 => gd (inB v7 8) (k63 v1 v3 v4 v5 v6 (v7 + 1) (si σ3 128 v7.toNatClampNeg (r3 - 2)))
def m_lots_117_L63 (k54 : Int32 → Int32 → Int32 → Int32 → Int32 → Sg → Option (Int32 × Sg)) : Nat → Int32 → Int32 → Int32 → Int32 → Int32 → Int32 → Sg → Option (Int32 × Sg)
  | 0, _, _, _, _, _, _, _ => none
  | n + 1, v1, v3, v4, v5, v6, v7, σ => m_lots_117_H63 k54 (m_lots_117_L63 k54 n) v1 v3 v4 v5 v6 v7 σ
def m_lots_117_H54 (k54 : Int32 → Int32 → Int32 → Int32 → Int32 → Sg → Option (Int32 × Sg)) (v1 : Int32) (v3 : Int32) (v4 : Int32) (v5 : Int32) (v6 : Int32) (σ : Sg) : Option (Int32 × Sg) :=
  if v1 ≤ v6 then if v3 = 0 then m_lots_117_b205 v4 σ else m_lots_117_b205 v5 σ else m_lots_117_L63 k54 fu v1 v3 v4 v5 v6 0 σ
def m_lots_117_L54 : Nat → Int32 → Int32 → Int32 → Int32 → Int32 → Sg → Option (Int32 × Sg)
  | 0, _, _, _, _, _, _ => none
  | n + 1, v1, v3, v4, v5, v6, σ => m_lots_117_H54 (m_lots_117_L54 n) v1 v3 v4 v5 v6 σ
def m_lots_117 (v1 : Int32) (v2 : Int32) (v3 : Int32) (σ : Sg) : Option (Int32 × Sg) :=
  if 1 ≤ v1 then if v1 ≤ 50 then bd (m_isIn_s v3.toInt64 0 1 σ) fun r1 σ1 => if r1 = 0 then bd (m_refuse_117 2 σ1) fun r2 σ2 => some (r2, σ2) else m_lots_117_L54 fu v1 v3 0 0 0 (si σ1 117 26 v2) else bd (m_refuse_117 6 σ) fun r4 σ4 => some (r4, σ4) else bd (m_refuse_117 4 σ) fun r6 σ6 => some (r6, σ6)
def m_list_117_H46 (k46 : Int32 → Int32 → Sg → Option (Int32 × Sg)) (v1 : Int32) (v3 : Int32) (σ : Sg) : Option (Int32 × Sg) :=
  if 40 ≤ v3 then some (1, σ) else gd (inB ((40 * v1) + v3) 120) (k46 v1 (v3 + 1) (si σ 127 ((40 * v1) + v3).toNatClampNeg 0))
def m_list_117_L46 : Nat → Int32 → Int32 → Sg → Option (Int32 × Sg)
  | 0, _, _, _ => none
  | n + 1, v1, v3, σ => m_list_117_H46 (m_list_117_L46 n) v1 v3 σ
def m_list_117 (v1 : Int32) (v2 : Int32) (σ : Sg) : Option (Int32 × Sg) :=
  bd (m_isList_s v1 σ) fun r1 σ1 => if r1 = 0 then bd (m_refuse_117 1 σ1) fun r7 σ7 => some (r7, σ7) else if v2 ≤ 40 then if 0 ≤ v2 then gd (inB v1 3) (m_list_117_L46 fu v1 0 (si σ1 126 v1.toNatClampNeg v2)) else bd (m_refuse_117 14 σ1) fun r3 σ3 => some (r3, σ3) else bd (m_refuse_117 6 σ1) fun r5 σ5 => some (r5, σ5)
def m_isCell_117 (v1 : Int32) (v2 : Int32) (σ : Sg) : Option (Int32 × Sg) :=
  gd (inB v1 3) (bd (m_isIn_s v2.toInt64 0 (((σ.1 126 v1.toNatClampNeg) - 1).toInt64) σ) fun r2 σ2 => gd (nbB r2) (some (r2, σ2)))
def m_wrongCell_117_b40 (s0 : Int32) (σ : Sg) : Option (Int32 × Sg) :=
  some (s0, σ)
def m_wrongCell_117 (v1 : Int32) (v2 : Int32) (σ : Sg) : Option (Int32 × Sg) :=
  bd (m_isList_s v1 σ) fun r1 σ1 => if r1 = 0 then m_wrongCell_117_b40 1 σ1 else gd (inB v1 3) (if 0 ≤ (σ1.1 126 v1.toNatClampNeg) then bd (m_isCell_117 v1 v2 σ1) fun r3 σ3 => if r3 = 0 then m_wrongCell_117_b40 13 σ3 else m_wrongCell_117_b40 0 σ3 else m_wrongCell_117_b40 11 σ1)
def m_put_117 (v1 : Int32) (v2 : Int32) (v3 : Int32) (σ : Sg) : Option (Int32 × Sg) :=
  bd (m_wrongCell_117 v1 v2 σ) fun r1 σ1 => if r1 = 0 then gd (inB ((40 * v1) + v2) 120) (some (1, si σ1 127 ((40 * v1) + v2).toNatClampNeg v3)) else bd (m_refuse_117 r1 σ1) fun r3 σ3 => some (r3, σ3)
def m_look_117_b30 (s0 : Int32) (σ : Sg) : Option (Int32 × Sg) :=
  some (s0, σ)
def m_look_117 (v1 : Int32) (v2 : Int32) (σ : Sg) : Option (Int32 × Sg) :=
  bd (m_wrongCell_117 v1 v2 σ) fun r1 σ1 => if r1 = 0 then gd (inB ((40 * v1) + v2) 120) (m_look_117_b30 (σ1.1 127 ((40 * v1) + v2).toNatClampNeg) σ1) else bd (m_refuseFar_117 r1 σ1) fun r3 σ3 => m_look_117_b30 r3 σ3
def m_lays3_117_b19 (σ : Sg) : Option (Int32 × Sg) :=
  bd (m_refuse_117 1 σ) fun r1 σ1 => some (r1, σ1)
def m_lays3_117_b62 (σ : Sg) : Option (Int32 × Sg) :=
  bd (m_refuse_117 13 σ) fun r1 σ1 => some (r1, σ1)
def m_lays3_117_H78 (k78 : Int32 → Int32 → Int32 → Sg → Option (Int32 × Sg)) (v1 : Int32) (v2 : Int32) (v5 : Int32) (σ : Sg) : Option (Int32 × Sg) :=
  if (σ.1 118 0) ≤ v5 then some (σ.1 118 0, σ) else gd (inB v5 8) (gd (inB (((40 * v1) + v2) + v5) 120) (k78 v1 v2 (v5 + 1) (si σ 127 (((40 * v1) + v2) + v5).toNatClampNeg ((σ.2 124 v5.toNatClampNeg).toInt32))))
def m_lays3_117_L78 : Nat → Int32 → Int32 → Int32 → Sg → Option (Int32 × Sg)
  | 0, _, _, _, _ => none
  | n + 1, v1, v2, v5, σ => m_lays3_117_H78 (m_lays3_117_L78 n) v1 v2 v5 σ
def m_lays3_117 (v1 : Int32) (v2 : Int32) (v3 : Int32) (σ : Sg) : Option (Int32 × Sg) :=
  bd (m_ownOf_117 v3 σ) fun r1 σ1 => bd (m_isList_s v1 σ1) fun r2 σ2 => if r2 = 0 then m_lays3_117_b19 σ2 else if 0 ≤ r1 then gd (inB v1 3) (if 0 ≤ (σ2.1 126 v1.toNatClampNeg) then if v2 < 0 then m_lays3_117_b62 σ2 else gd (inB v1 3) (if (σ2.1 118 0) ≤ ((σ2.1 126 v1.toNatClampNeg) - v2) then bd (m_groups_117 r1 σ2) fun _ σ5 => m_lays3_117_L78 fu v1 v2 0 σ5 else m_lays3_117_b62 σ2) else bd (m_refuse_117 11 σ2) fun r8 σ8 => some (r8, σ8)) else m_lays3_117_b19 σ2
def m_judge_117_b77 (v2 : Int32) (σ : Sg) : Option (Int32 × Sg) :=
  some (v2, σ)
def m_judge_117_H31 (k31 : Int32 → Int32 → Sg → Option (Int32 × Sg)) (v1 : Int32) (v2 : Int32) (σ : Sg) : Option (Int32 × Sg) :=
  gd (inB v1 3) (if (σ.1 126 v1.toNatClampNeg) ≤ v2 then some ((-9), σ) else if (5 * (σ.1 118 0)) ≤ v2 then m_judge_117_b77 v2 σ else gd (inB ((40 * v1) + v2) 120) (bd (m_powerOf_117 (v2 / 5) (irm v2 5) σ) fun r3 σ3 => if (σ.1 127 ((40 * v1) + v2).toNatClampNeg) = r3 then k31 v1 (v2 + 1) σ3 else m_judge_117_b77 v2 σ3))
def m_judge_117_L31 : Nat → Int32 → Int32 → Sg → Option (Int32 × Sg)
  | 0, _, _, _ => none
  | n + 1, v1, v2, σ => m_judge_117_H31 (m_judge_117_L31 n) v1 v2 σ
def m_judge_117 (v1 : Int32) (σ : Sg) : Option (Int32 × Sg) :=
  bd (m_isList_s v1 σ) fun r1 σ1 => if r1 = 0 then bd (m_refuse_117 1 σ1) fun r5 σ5 => some (r5, σ5) else gd (inB v1 3) (if 0 ≤ (σ1.1 126 v1.toNatClampNeg) then m_judge_117_L31 fu v1 0 σ1 else bd (m_refuse_117 11 σ1) fun r3 σ3 => some (r3, σ3))
def m_undo_117_b81 (σ : Sg) : Option (Int32 × Sg) :=
  some (σ.1 117 7, σ)
def m_undo_117 (σ : Sg) : Option (Int32 × Sg) :=
  if (σ.1 117 7) = 0 then bd (m_refuse_117 3 σ) fun r9 σ9 => some (r9, σ9) else gd (inB (5 * ((si σ 117 7 ((σ.1 117 7) - 1)).1 117 7)) 100) (gd (inB ((5 * ((si σ 117 7 ((σ.1 117 7) - 1)).1 117 7)) + 1) 100) (gd (inB ((si σ 117 7 ((σ.1 117 7) - 1)).1 122 (5 * ((si σ 117 7 ((σ.1 117 7) - 1)).1 117 7)).toNatClampNeg) 139) (gd (inB ((5 * ((si σ 117 7 ((σ.1 117 7) - 1)).1 117 7)) + 2) 100) (if ((si (si σ 117 7 ((σ.1 117 7) - 1)) 118 ((si σ 117 7 ((σ.1 117 7) - 1)).1 122 (5 * ((si σ 117 7 ((σ.1 117 7) - 1)).1 117 7)).toNatClampNeg).toNatClampNeg ((si σ 117 7 ((σ.1 117 7) - 1)).1 122 ((5 * ((si σ 117 7 ((σ.1 117 7) - 1)).1 117 7)) + 1).toNatClampNeg)).1 122 ((5 * ((si σ 117 7 ((σ.1 117 7) - 1)).1 117 7)) + 2).toNatClampNeg) < 0 then m_undo_117_b81 (si (si σ 117 7 ((σ.1 117 7) - 1)) 118 ((si σ 117 7 ((σ.1 117 7) - 1)).1 122 (5 * ((si σ 117 7 ((σ.1 117 7) - 1)).1 117 7)).toNatClampNeg).toNatClampNeg ((si σ 117 7 ((σ.1 117 7) - 1)).1 122 ((5 * ((si σ 117 7 ((σ.1 117 7) - 1)).1 117 7)) + 1).toNatClampNeg)) else gd (inB ((5 * ((si σ 117 7 ((σ.1 117 7) - 1)).1 117 7)) + 2) 100) (gd (inB ((5 * ((si σ 117 7 ((σ.1 117 7) - 1)).1 117 7)) + 3) 100) (gd (inB ((si (si σ 117 7 ((σ.1 117 7) - 1)) 118 ((si σ 117 7 ((σ.1 117 7) - 1)).1 122 (5 * ((si σ 117 7 ((σ.1 117 7) - 1)).1 117 7)).toNatClampNeg).toNatClampNeg ((si σ 117 7 ((σ.1 117 7) - 1)).1 122 ((5 * ((si σ 117 7 ((σ.1 117 7) - 1)).1 117 7)) + 1).toNatClampNeg)).1 122 ((5 * ((si σ 117 7 ((σ.1 117 7) - 1)).1 117 7)) + 2).toNatClampNeg) 139) (m_undo_117_b81 (si (si (si σ 117 7 ((σ.1 117 7) - 1)) 118 ((si σ 117 7 ((σ.1 117 7) - 1)).1 122 (5 * ((si σ 117 7 ((σ.1 117 7) - 1)).1 117 7)).toNatClampNeg).toNatClampNeg ((si σ 117 7 ((σ.1 117 7) - 1)).1 122 ((5 * ((si σ 117 7 ((σ.1 117 7) - 1)).1 117 7)) + 1).toNatClampNeg)) 118 ((si (si σ 117 7 ((σ.1 117 7) - 1)) 118 ((si σ 117 7 ((σ.1 117 7) - 1)).1 122 (5 * ((si σ 117 7 ((σ.1 117 7) - 1)).1 117 7)).toNatClampNeg).toNatClampNeg ((si σ 117 7 ((σ.1 117 7) - 1)).1 122 ((5 * ((si σ 117 7 ((σ.1 117 7) - 1)).1 117 7)) + 1).toNatClampNeg)).1 122 ((5 * ((si σ 117 7 ((σ.1 117 7) - 1)).1 117 7)) + 2).toNatClampNeg).toNatClampNeg ((si (si σ 117 7 ((σ.1 117 7) - 1)) 118 ((si σ 117 7 ((σ.1 117 7) - 1)).1 122 (5 * ((si σ 117 7 ((σ.1 117 7) - 1)).1 117 7)).toNatClampNeg).toNatClampNeg ((si σ 117 7 ((σ.1 117 7) - 1)).1 122 ((5 * ((si σ 117 7 ((σ.1 117 7) - 1)).1 117 7)) + 1).toNatClampNeg)).1 122 ((5 * ((si σ 117 7 ((σ.1 117 7) - 1)).1 117 7)) + 3).toNatClampNeg)))))))))
def m_image_117_H2 (k2 : Int32 → Sg → Option (Int32 × Sg)) (v1 : Int32) (σ : Sg) : Option (Int32 × Sg) :=
  if 139 ≤ v1 then some ((si σ 117 2 1).1 118 0, si σ 117 2 1) else gd (inB v1 139) (gd (inB v1 139) (k2 (v1 + 1) (si σ 119 v1.toNatClampNeg (σ.1 118 v1.toNatClampNeg))))
def m_image_117_L2 : Nat → Int32 → Sg → Option (Int32 × Sg)
  | 0, _, _ => none
  | n + 1, v1, σ => m_image_117_H2 (m_image_117_L2 n) v1 σ
def m_image_117 (σ : Sg) : Option (Int32 × Sg) :=
  m_image_117_L2 fu 0 σ
def m_on_117_H15 (k15 : Int32 → Sg → Option (Int32 × Sg)) (v1 : Int32) (σ : Sg) : Option (Int32 × Sg) :=
  if 139 ≤ v1 then some ((si σ 117 7 0).1 118 0, si σ 117 7 0) else gd (inB v1 139) (gd (inB v1 139) (k15 (v1 + 1) (si σ 118 v1.toNatClampNeg (σ.1 119 v1.toNatClampNeg))))
def m_on_117_L15 : Nat → Int32 → Sg → Option (Int32 × Sg)
  | 0, _, _ => none
  | n + 1, v1, σ => m_on_117_H15 (m_on_117_L15 n) v1 σ
def m_on_117 (σ : Sg) : Option (Int32 × Sg) :=
  if (σ.1 117 2) = 0 then bd (m_refuse_117 3 σ) fun r1 σ1 => some (r1, σ1) else m_on_117_L15 fu 0 σ
def m_scales_117_b34 (k4 : Int32 → Int32 → Sg → Option (Int32 × Sg)) (v2 : Int32) (s0 : Int32) (s1 : Int32) (σ : Sg) : Option (Int32 × Sg) :=
  k4 (s0 ||| s1) (v2 + 1) σ
def m_scales_117_H4 (k4 : Int32 → Int32 → Sg → Option (Int32 × Sg)) (v1 : Int32) (v2 : Int32) (σ : Sg) : Option (Int32 × Sg) :=
  if (σ.1 118 0) ≤ v2 then some (v1, σ) else gd (inB (49 + v2) 139) (if (σ.1 118 (49 + v2).toNatClampNeg) ≤ 0 then m_scales_117_b34 k4 v2 v1 0 σ else m_scales_117_b34 k4 v2 v1 ((1 : Int32) <<< (v2 &&& 31)) σ)
def m_scales_117_L4 : Nat → Int32 → Int32 → Sg → Option (Int32 × Sg)
  | 0, _, _, _ => none
  | n + 1, v1, v2, σ => m_scales_117_H4 (m_scales_117_L4 n) v1 v2 σ
def m_scales_117 (σ : Sg) : Option (Int32 × Sg) :=
  m_scales_117_L4 fu 0 0 σ
def m_count_117_b75 (s0 : Int32) (σ : Sg) : Option (Int32 × Sg) :=
  some (s0, σ)
def m_count_117_b109 (s0 : Int32) (σ : Sg) : Option (Int32 × Sg) :=
  some (s0, σ)
def m_count_117 (v1 : Int32) (σ : Sg) : Option (Int32 × Sg) :=
  if v1 = 0 then some (σ.1 118 0, σ) else if v1 = 1 then some (σ.1 117 5, σ) else if v1 = 2 then bd (m_scales_117 σ) fun r4 σ4 => some (r4, σ4) else if v1 = 3 then if (σ.1 118 66) = 0 then m_count_117_b75 (-9) σ else m_count_117_b75 (σ.1 118 65) σ else if v1 = 4 then some (σ.1 117 7, σ) else bd (m_isIn_s v1.toInt64 11 16 σ) fun r8 σ8 => if r8 = 0 then m_count_117_b109 (-9) σ8 else gd (inB (v1 - 10) 7) (m_count_117_b109 (σ8.1 120 (v1 - 10).toNatClampNeg) σ8)
