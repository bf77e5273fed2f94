/-! ===== PURE: what stands between two calls ===== -/
/-- the elimination on paper: (cells, rank, pivots as bits, row of a pivot, the last pivot) -/
abbrev ET : Type := (Nat → Nat → Int64) × Nat × Nat × (Nat → Nat) × Int64
def efr (T : Nat → Nat → Int64) (c : Nat) : Nat → Nat → Option Nat
  | 0, _ => none
  | n + 1, r => if T r c = 0 then efr T c n (r + 1) else some r
def esw (T : Nat → Nat → Int64) (a b : Nat) : Nat → Nat → Int64 := fun r j => if r = a then T b j else if r = b then T a j else T r j
def ecl (T : Nat → Nat → Int64) (k c : Nat) (sc : Int64) : Nat → Nat → Int64 := fun r j => if r = k then T r j else (T r j * T k c - T r c * T k j) / sc
def est1 (set c : Nat) (s : ET) : ET := if set.testBit c = true then (match efr s.1 c (5 - s.2.1) s.2.1 with
  | none => s
  | some r => (ecl (esw s.1 r s.2.1) s.2.1 c s.2.2.2.2, s.2.1 + 1, s.2.2.1 + 2 ^ c, (fun j => if j = c then s.2.1 else s.2.2.2.1 j), esw s.1 r s.2.1 s.2.1 c)) else s
def ets (A : Nat → Nat → Int64) (set : Nat) : Nat → ET
  | 0 => (A, 0, 0, fun _ => 0, 1)
  | c + 1 => est1 set c (ets A set c)
/-- the POWER of a UNIT, by a KIND, of what is TOLD -/
def pw (κ : Int32) (u : Nat) (v : Int32) : Int32 := if κ = 1 then (if u = 2 then v - 1 else v) else if κ = 2 then (if u = 1 then v - 1 else v) else if κ = 3 then (if u = 1 then v - 2 else if u = 2 then v - 1 else v) else if κ = 4 then 0 else if κ = 5 then (if u = 1 then 2 * v - 2 else 2 * v) else v
/-- DIMENSIONS, out of the reference's row -/
def dm (σ : Sg) (k u : Nat) : Int32 := pw (σ.1 118 (1 + k)) u (σ.1 118 (9 + 5 * k + u))
def ky (f : Nat → Int32) : Int64 := (((((0 * 4096 + (f 0).toInt64) * 4096 + (f 1).toInt64) * 4096 + (f 2).toInt64) * 4096 + (f 3).toInt64) * 4096) + (f 4).toInt64
def mA (σ : Sg) : Nat → Nat → Int64 := fun u c => (dm σ c u).toInt64
def tv (x : Int32) : Prop := -9 ≤ x.toInt ∧ x.toInt ≤ 9
def SC (a b a2 b2 : Int32) : Prop := a = a2 ∧ (a = 0 ∨ ∃ x y : Nat, 1 ≤ x ∧ x ≤ 99 ∧ 1 ≤ y ∧ y ≤ 99 ∧ a = nI x ∧ b = nI y ∧ b2 = nI y)
/-- an elimination's cells: o the object, t the outer row, w rowOf -/
def EL (o t w q : Nat) (s : ET) (σ : Sg) : Prop := σ.1 o 2 = nI q ∧ σ.1 o 3 = nI s.2.1 ∧ σ.1 o 4 = nI s.2.2.1 ∧ σ.2 o 5 = s.2.2.2.2 ∧ (∀ r c, r < 5 → c < q → σ.2 (t + 1 + r) c = s.1 r c) ∧ ∀ c, c < q → s.2.2.1.testBit c = true → σ.1 w c = nI (s.2.2.2.1 c)
def SP (q : Nat) (σ : Sg) : Prop := σ.1 51 0 = nI q ∧ (∀ k u, k < q → u < 5 → σ.1 (52 + 1 + k) u = dm σ k u) ∧ (∀ k, k < q → σ.2 61 k = ky (dm σ k)) ∧ EL 62 63 69 q (ets (mA σ) (2 ^ q - 1) q) σ
