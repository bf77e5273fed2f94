/-! ===== PURE: what stands between two calls ===== -/
/-- the elimination on paper: (cells, rank, pivots as bits, row of a pivot, the last pivot) -/
abbrev ET : Type := (Nat → Nat → Int64) × Nat × Nat × (Nat → Nat) × Int64
def efr (T : Nat → Nat → Int64) (c : Nat) : Nat → Nat → Option Nat
  | 0, _ => none
  | n + 1, r => if T r c = 0 then efr T c n (r + 1) else some r
def esw (T : Nat → Nat → Int64) (a b : Nat) : Nat → Nat → Int64 := fun r j => if r = a then T b j else if r = b then T a j else T r j
def ecl (T : Nat → Nat → Int64) (k c : Nat) (sc : Int64) : Nat → Nat → Int64 := fun r j => if r = k then T r j else (T r j * T k c - T r c * T k j) / sc
def est1 (set c : Nat) (s : ET) : ET := if set.testBit c = true then (match efr s.1 c (5 - s.2.1) s.2.1 with
  | none => s
  | some r => (ecl (esw s.1 r s.2.1) s.2.1 c s.2.2.2.2, s.2.1 + 1, s.2.2.1 + 2 ^ c, (fun j => if j = c then s.2.1 else s.2.2.2.1 j), esw s.1 r s.2.1 s.2.1 c)) else s
def ets (A : Nat → Nat → Int64) (set : Nat) : Nat → ET
  | 0 => (A, 0, 0, fun _ => 0, 1)
  | c + 1 => est1 set c (ets A set c)
/-- the POWER of a UNIT, by a KIND, of what is TOLD -/
def pw (κ : Int32) (u : Nat) (v : Int32) : Int32 := if κ = 1 then (if u = 2 then v - 1 else v) else if κ = 2 then (if u = 1 then v - 1 else v) else if κ = 3 then (if u = 1 then v - 2 else if u = 2 then v - 1 else v) else if κ = 4 then 0 else if κ = 5 then (if u = 1 then 2 * v - 2 else 2 * v) else v
/-- DIMENSIONS, out of the reference's row -/
def dm (σ : Sg) (k u : Nat) : Int32 := pw (σ.1 118 (1 + k)) u (σ.1 118 (9 + 5 * k + u))
def ky (f : Nat → Int32) : Int64 := (((((0 * 4096 + (f 0).toInt64) * 4096 + (f 1).toInt64) * 4096 + (f 2).toInt64) * 4096 + (f 3).toInt64) * 4096) + (f 4).toInt64
def mA (σ : Sg) : Nat → Nat → Int64 := fun u c => (dm σ c u).toInt64
def tv (x : Int32) : Prop := -9 ≤ x.toInt ∧ x.toInt ≤ 9
def SC (a b a2 b2 : Int32) : Prop := a = a2 ∧ (a = 0 ∨ ∃ x y : Nat, 1 ≤ x ∧ x ≤ 99 ∧ 1 ≤ y ∧ y ≤ 99 ∧ a = nI x ∧ b = nI y ∧ b2 = nI y)
/-- an elimination's cells: o the object, t the outer row, w rowOf -/
def EL (o t w q : Nat) (s : ET) (σ : Sg) : Prop := σ.1 o 2 = nI q ∧ σ.1 o 3 = nI s.2.1 ∧ σ.1 o 4 = nI s.2.2.1 ∧ σ.2 o 5 = s.2.2.2.2 ∧ (∀ r c, r < 5 → c < q → σ.2 (t + 1 + r) c = s.1 r c) ∧ ∀ c, c < q → s.2.2.1.testBit c = true → σ.1 w c = nI (s.2.2.2.1 c)
def SP (q : Nat) (σ : Sg) : Prop := σ.1 51 0 = nI q ∧ (∀ k u, k < q → u < 5 → σ.1 (52 + 1 + k) u = dm σ k u) ∧ (∀ k, k < q → σ.2 61 k = ky (dm σ k)) ∧ EL 62 63 69 q (ets (mA σ) (2 ^ q - 1) q) σ
/-! what is noted of all sets, and of the least product: on paper -/
abbrev ZT : Type := (Nat → Nat → Int) × Nat × Nat × (Nat → Nat) × Int
def gch (s : Int) (v : Nat → Int) : Nat → Nat
  | 0 => s.natAbs
  | k + 1 => Nat.gcd (gch s v k) (v k).natAbs
def sgd (s : Int) (g : Nat) : Int := if 0 ≤ s then (g : Int) else -(g : Int)
def cntS (S : Nat) : Nat → Nat
  | 0 => 0
  | p + 1 => cntS S p + if S.testBit p = true then 1 else 0
/-- the powers of a relation: of column x by the pivots -/
def rl (t : ZT) (x p : Nat) : Int := if p = x then t.2.2.2.2.tdiv (sgd t.2.2.2.2 (gch t.2.2.2.2 (fun r => t.1 r x) t.2.1)) else if t.2.2.1.testBit p = true then (-(t.1 (t.2.2.2.1 p) x)).tdiv (sgd t.2.2.2.2 (gch t.2.2.2.2 (fun r => t.1 r x) t.2.1)) else 0
def tz (s : ET) : ZT := (fun r j => (s.1 r j).toInt, s.2.1, s.2.2.1, s.2.2.2.1, s.2.2.2.2.toInt)
def RK (σ : Sg) (q : Nat) : Nat := (ets (mA σ) (2 ^ q - 1) q).2.1
def chB (σ : Sg) (q S : Nat) : Bool := decide (cntS S q = RK σ q) && decide ((ets (mA σ) S q).2.2.1 = S)
/-- the relation of one that is not chosen -/
def RS (σ : Sg) (q S x p : Nat) : Int := rl (tz (ets (mA σ) S q)) x p
def sza (σ : Sg) (q S x : Nat) : Nat → Int
  | 0 => 0
  | p + 1 => sza σ q S x p + ((RS σ q S x p).natAbs : Int)
def szt (σ : Sg) (q S : Nat) : Nat → Int
  | 0 => 0
  | x + 1 => szt σ q S x + (if S.testBit x = true then 0 else sza σ q S x q)
/-- count, tried, first, best, least sizes: of the sets below k -/
def lkf (σ : Sg) (q : Nat) : Nat → Nat × Nat × Nat × Nat × Int
  | 0 => (0, 0, 0, 0, 0)
  | S + 1 => ((lkf σ q S).1 + (if chB σ q S = true then 1 else 0), (lkf σ q S).2.1 + (if cntS S q = RK σ q then 1 else 0), (if chB σ q S = true ∧ (lkf σ q S).1 = 0 then S else (lkf σ q S).2.2.1), (if chB σ q S = true ∧ ((lkf σ q S).1 = 0 ∨ szt σ q S q < (lkf σ q S).2.2.2.2) then S else (lkf σ q S).2.2.2.1), (if chB σ q S = true ∧ ((lkf σ q S).1 = 0 ∨ szt σ q S q < (lkf σ q S).2.2.2.2) then szt σ q S q else (lkf σ q S).2.2.2.2))
def dZ (σ : Sg) (k u : Nat) : Int := (dm σ k u).toInt
/-- how many ways there are to a pure product, from the d last ones -/
def zr5 (v : Nat → Int) : Bool := decide (v 0 = 0) && decide (v 1 = 0) && decide (v 2 = 0) && decide (v 3 = 0) && decide (v 4 = 0)
/-- the first of so many, from x on -/
def lsl (g : Int → Option (List Int)) : Nat → Int → Option (List Int)
  | 0, _ => none
  | e + 1, x => match g x with
    | some l => some (x :: l)
    | none => lsl g e (x + 1)
/-- powers of the d last ones, of a size, that make it pure -/
def lsr (σ : Sg) (q : Nat) : Nat → Nat → (Nat → Int) → Option (List Int)
  | 0, left, v => if left = 0 ∧ zr5 v = true then some [] else none
  | d + 1, left, v => lsl (fun x => lsr σ q d (left - x.natAbs) (fun u => v u + x * dZ σ (q - (d + 1)) u)) (2 * left + 1) (-(left : Int))
def lsT (σ : Sg) (q : Nat) : Nat → Nat → Option (Nat × List Int)
  | 0, _ => none
  | e + 1, n => match lsr σ q q n (fun _ => 0) with
    | some l => some (n, l)
    | none => lsT σ q e (n + 1)
/-- what the class keeps of it -/
def LSP (σ : Sg) (q : Nat) (τ : Sg) : Prop := match lsT σ q 6 1 with
  | none => τ.1 80 2 = 0 ∧ ∀ j, j < q → τ.1 81 j = 0
  | some p => τ.1 80 2 = nI p.1 ∧ 1 ≤ p.1 ∧ p.1 ≤ 6 ∧ ∀ j, j < q → (τ.1 81 j).toInt = p.2.getD j 0
/-- what the class has noted of all sets, and of the least -/
def LKQ (ρ : Sg) (q : Nat) (σ : Sg) : Prop := σ.1 70 4 = nI (lkf ρ q (2 ^ q)).1 ∧ σ.1 70 5 = nI (lkf ρ q (2 ^ q)).2.1 ∧ σ.1 70 6 = nI (lkf ρ q (2 ^ q)).2.2.1 ∧ σ.1 70 7 = nI (lkf ρ q (2 ^ q)).2.2.2.1
