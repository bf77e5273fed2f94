/-! ===== THE SMALL MACHINE: bytecode over a store of numbers; cells by their numbers, references are cells' numbers ===== -/
abbrev Sg : Type := (Nat → Nat → Int32) × (Nat → Nat → Int64)
abbrev LV : Type := List (Nat × Value)
/-- pc, instruction, length, three numbers that say what it links to, constants or targets -/
abbrev Ent : Type := Nat × Instr × Nat × Nat × Nat × Nat × List Int
abbrev PS : Type := Nat × LV × List Value × Sg
/-- an array that is only read: the law's script -/
abbrev RO : Type := Option (Nat × (Nat → Int32))
def si (σ : Sg) (c j : Nat) (x : Int32) : Sg := (fun c' => if c' = c then upd (σ.1 c) j x else σ.1 c', σ.2)
def sl (σ : Sg) (c j : Nat) (x : Int64) : Sg := (σ.1, fun c' => if c' = c then vp_updL (σ.2 c) j x else σ.2 c')
def scp (σ : Sg) (c0 c1 sp dp n : Nat) : Sg := (fun c' => if c' = c1 then va_cpy (σ.1 c0) (σ.1 c1) sp dp n else σ.1 c', σ.2)
def lget : LV → Nat → Option Value
  | [], _ => none
  | (i, v) :: r, k => bif i == k then some v else lget r k
def lset1 (lv : LV) (i : Nat) (v : Value) : LV := (i, v) :: lv.filter (fun q => !(q.1 == i) && !(q.1 + 1 == i && q.2.category == 2))
def lset2 (lv : LV) (i : Nat) (v : Value) : LV := (i, v) :: lv.filter (fun q => !(q.1 == i) && (!(q.1 == i + 1) && !(q.1 + 1 == i && q.2.category == 2)))
def conj : List Prop → Prop
  | [] => True
  | p :: l => p ∧ conj l
def nb (x : Int32) : Prop := x = 0 ∨ x = 1
def swt (x : Int32) (d : Nat) : Int → List Int → Nat
  | _, [] => d
  | k, t :: r => if x = Int32.ofInt k then t.toNat else swt x d (k + 1) r
abbrev Res : Type := Option (List Prop × PS)
def nx (pc : Nat) (lv : LV) (st : List Value) (σ : Sg) : Res := some ([], pc, lv, st, σ)
def cx (c : Prop) (pc : Nat) (lv : LV) (st : List Value) (σ : Sg) : Res := some ([c], pc, lv, st, σ)
def xld (v : Option Value) (pc : Nat) (lv : LV) (st : List Value) (σ : Sg) : Res := match v with
  | some w => nx pc lv (w :: st) σ
  | none => none
def isI : Option Value → Option Value
  | some (.int x) => some (.int x)
  | _ => none
def isJ : Option Value → Option Value
  | some (.long x) => some (.long x)
  | _ => none
def isR : Option Value → Option Value
  | some (.ref x) => some (.ref x)
  | _ => none
def xst (i : Nat) (pc : Nat) (lv : LV) (st : List Value) (σ : Sg) : Res := match st with
  | .int x :: r => nx pc (lset1 lv i (.int x)) r σ
  | _ => none
def xsta (i : Nat) (pc : Nat) (lv : LV) (st : List Value) (σ : Sg) : Res := match st with
  | .ref x :: r => nx pc (lset1 lv i (.ref x)) r σ
  | _ => none
def xstl (i : Nat) (pc : Nat) (lv : LV) (st : List Value) (σ : Sg) : Res := match st with
  | .long x :: r => nx pc (lset2 lv i (.long x)) r σ
  | _ => none
def x2i (f : Int32 → Int32 → Int32) (pc : Nat) (lv : LV) (st : List Value) (σ : Sg) : Res := match st with
  | .int y :: .int x :: r => nx pc lv (.int (f x y) :: r) σ
  | _ => none
def x2ic (f : Int32 → Int32 → Int32) (pc : Nat) (lv : LV) (st : List Value) (σ : Sg) : Res := match st with
  | .int y :: .int x :: r => cx (¬ y = 0) pc lv (.int (f x y) :: r) σ
  | _ => none
def x2l (f : Int64 → Int64 → Int64) (pc : Nat) (lv : LV) (st : List Value) (σ : Sg) : Res := match st with
  | .long y :: .long x :: r => nx pc lv (.long (f x y) :: r) σ
  | _ => none
def x2lc (f : Int64 → Int64 → Int64) (pc : Nat) (lv : LV) (st : List Value) (σ : Sg) : Res := match st with
  | .long y :: .long x :: r => cx (¬ y = 0) pc lv (.long (f x y) :: r) σ
  | _ => none
def xif (f : Int32 → Nat) (lv : LV) (st : List Value) (σ : Sg) : Res := match st with
  | .int x :: r => nx (f x) lv r σ
  | _ => none
def xif2 (f : Int32 → Int32 → Nat) (lv : LV) (st : List Value) (σ : Sg) : Res := match st with
  | .int y :: .int x :: r => nx (f x y) lv r σ
  | _ => none
def iush (x y : Int32) : Int32 := (x.toUInt32 >>> (y.toUInt32 &&& Int32.toUInt32 31)).toInt32
def lush (x : Int64) (y : Int32) : Int64 := (x.toUInt64 >>> (y.toInt64.toUInt64 &&& Int64.toUInt64 63)).toInt64
def irm (x y : Int32) : Int32 := x - x / y * y
def lrm (x y : Int64) : Int64 := x - x / y * y
def iabs (x : Int32) : Int32 := if 0 ≤ x then x else 0 - x
def labs (x : Int64) : Int64 := if 0 < x then x else -x
def imax (x y : Int32) : Int32 := if x < y then y else x
def imin (x y : Int32) : Int32 := if y < x then y else x
/-- what one instruction does, and on what conditions; none: nothing is said -/
def exec1 (X : RO) (e : Ent) (lv : LV) (st : List Value) (σ : Sg) : Res :=
  match e with
  | (pc, ins, len, a, b, d, zs) =>
  match ins with
  | .iload i => xld (isI (lget lv i)) (pc + len) lv st σ
  | .iload_n k => xld (isI (lget lv k.val)) (pc + len) lv st σ
  | .lload i => xld (isJ (lget lv i)) (pc + len) lv st σ
  | .lload_n k => xld (isJ (lget lv k.val)) (pc + len) lv st σ
  | .aload i => xld (isR (lget lv i)) (pc + len) lv st σ
  | .aload_n k => xld (isR (lget lv k.val)) (pc + len) lv st σ
  | .istore i => xst i (pc + len) lv st σ
  | .istore_n k => xst k.val (pc + len) lv st σ
  | .lstore i => xstl i (pc + len) lv st σ
  | .lstore_n k => xstl k.val (pc + len) lv st σ
  | .astore i => xsta i (pc + len) lv st σ
  | .astore_n k => xsta k.val (pc + len) lv st σ
  | .iinc i n => (match lget lv i with
    | some (.int x) => nx (pc + len) (lset1 lv i (.int (x + Int32.ofInt n))) st σ
    | _ => none)
  | .iconst n => nx (pc + len) lv (.int (Int32.ofInt n) :: st) σ
  | .bipush n => nx (pc + len) lv (.int (Int32.ofInt n) :: st) σ
  | .sipush n => nx (pc + len) lv (.int (Int32.ofInt n) :: st) σ
  | .ldc _ => (match zs with
    | z :: _ => nx (pc + len) lv (.int (Int32.ofInt z) :: st) σ
    | _ => none)
  | .ldc_w _ => (match zs with
    | z :: _ => nx (pc + len) lv (.int (Int32.ofInt z) :: st) σ
    | _ => none)
  | .ldc2_w _ => (match zs with
    | z :: _ => nx (pc + len) lv (.long (Int64.ofInt z) :: st) σ
    | _ => none)
  | .lconst n => nx (pc + len) lv (.long (Int64.ofNat n.val) :: st) σ
  | .iadd => x2i (fun x y => x + y) (pc + len) lv st σ
  | .isub => x2i (fun x y => x - y) (pc + len) lv st σ
  | .imul => x2i (fun x y => x * y) (pc + len) lv st σ
  | .iand => x2i (fun x y => x &&& y) (pc + len) lv st σ
  | .ior => x2i (fun x y => x ||| y) (pc + len) lv st σ
  | .ixor => x2i (fun x y => x ^^^ y) (pc + len) lv st σ
  | .ishl => x2i (fun x y => x <<< (y &&& 31)) (pc + len) lv st σ
  | .ishr => x2i (fun x y => x >>> (y &&& 31)) (pc + len) lv st σ
  | .iushr => x2i iush (pc + len) lv st σ
  | .idiv => x2ic (fun x y => x / y) (pc + len) lv st σ
  | .irem => x2ic irm (pc + len) lv st σ
  | .ineg => (match st with
    | .int x :: r => nx (pc + len) lv (.int (-x) :: r) σ
    | _ => none)
  | .ladd => x2l (fun x y => x + y) (pc + len) lv st σ
  | .lsub => x2l (fun x y => x - y) (pc + len) lv st σ
  | .lmul => x2l (fun x y => x * y) (pc + len) lv st σ
  | .ldiv => x2lc (fun x y => x / y) (pc + len) lv st σ
  | .lrem => x2lc lrm (pc + len) lv st σ
  | .lneg => (match st with
    | .long x :: r => nx (pc + len) lv (.long (-x) :: r) σ
    | _ => none)
  | .lushr => (match st with
    | .int y :: .long x :: r => nx (pc + len) lv (.long (lush x y) :: r) σ
    | _ => none)
  | .lcmp => (match st with
    | .long y :: .long x :: r => nx (pc + len) lv (.int (lg_cmp x y) :: r) σ
    | _ => none)
  | .i2l => (match st with
    | .int x :: r => nx (pc + len) lv (.long x.toInt64 :: r) σ
    | _ => none)
  | .l2i => (match st with
    | .long x :: r => nx (pc + len) lv (.int x.toInt32 :: r) σ
    | _ => none)
  | .ifCond .eq _ => xif (fun x => if x = 0 then a else pc + 3) lv st σ
  | .ifCond .ne _ => xif (fun x => if ¬ x = 0 then a else pc + 3) lv st σ
  | .ifCond .lt _ => xif (fun x => if x < 0 then a else pc + 3) lv st σ
  | .ifCond .ge _ => xif (fun x => if 0 ≤ x then a else pc + 3) lv st σ
  | .ifCond .gt _ => xif (fun x => if 0 < x then a else pc + 3) lv st σ
  | .ifCond .le _ => xif (fun x => if x ≤ 0 then a else pc + 3) lv st σ
  | .if_icmp .eq _ => xif2 (fun x y => if x = y then a else pc + 3) lv st σ
  | .if_icmp .ne _ => xif2 (fun x y => if ¬ x = y then a else pc + 3) lv st σ
  | .if_icmp .lt _ => xif2 (fun x y => if x < y then a else pc + 3) lv st σ
  | .if_icmp .ge _ => xif2 (fun x y => if y ≤ x then a else pc + 3) lv st σ
  | .if_icmp .gt _ => xif2 (fun x y => if y < x then a else pc + 3) lv st σ
  | .if_icmp .le _ => xif2 (fun x y => if x ≤ y then a else pc + 3) lv st σ
  | .goto _ => nx a lv st σ
  | .tableswitch _ lo _ _ => xif (fun x => swt x a lo zs) lv st σ
  | .dup => (match st with
    | v :: r => cx (v.category = 1) (pc + len) lv (v :: v :: r) σ
    | _ => none)
  | .dup2 => (match st with
    | v :: w :: r => cx (v.category = 1 ∧ w.category = 1) (pc + len) lv (v :: w :: v :: w :: r) σ
    | _ => none)
  | .iaload => (match st with
    | .int i :: .ref c :: r => bif d == 0 then cx (ck c = 0 ∧ vp_in i (al c)) (pc + len) lv (.int (σ.1 c i.toNatClampNeg) :: r) σ
        else bif d == 1 then cx ((1000 ≤ c ∧ c < 1005) ∧ vp_in i (sn c)) (pc + len) lv (.int (sv c i.toNatClampNeg) :: r) σ
        else (match X with
          | some x => cx (c = 2000 ∧ vp_in i x.1) (pc + len) lv (.int (x.2 i.toNatClampNeg) :: r) σ
          | none => none)
    | _ => none)
  | .laload => (match st with
    | .int i :: .ref c :: r => cx (ck c = 1 ∧ vp_in i (al c)) (pc + len) lv (.long (σ.2 c i.toNatClampNeg) :: r) σ
    | _ => none)
  | .baload => (match st with
    | .int i :: .ref c :: r => cx (ck c = 2 ∧ vp_in i (al c)) (pc + len) lv (.int (σ.1 c i.toNatClampNeg) :: r) σ
    | _ => none)
  | .aaload => (match st with
    | .int i :: .ref c :: r => cx ((ck c = 3 ∨ ck c = 4) ∧ vp_in i (al c)) (pc + len) lv (.ref (c + 1 + i.toNatClampNeg) :: r) σ
    | _ => none)
  | .iastore => (match st with
    | .int x :: .int i :: .ref c :: r => cx (ck c = 0 ∧ vp_in i (al c)) (pc + len) lv r (si σ c i.toNatClampNeg x)
    | _ => none)
  | .lastore => (match st with
    | .long x :: .int i :: .ref c :: r => cx (ck c = 1 ∧ vp_in i (al c)) (pc + len) lv r (sl σ c i.toNatClampNeg x)
    | _ => none)
  | .bastore => (match st with
    | .int x :: .int i :: .ref c :: r => cx (ck c = 2 ∧ vp_in i (al c)) (pc + len) lv r (si σ c i.toNatClampNeg (x &&& 1))
    | _ => none)
  | .arraylength => (match st with
    | .ref c :: r => bif d == 0 then cx (ck c < 5) (pc + len) lv (.int (Int32.ofNat (al c)) :: r) σ
        else bif d == 1 then cx (1000 ≤ c ∧ c < 1005) (pc + len) lv (.int (Int32.ofNat (sn c)) :: r) σ
        else (match X with
          | some x => cx (c = 2000) (pc + len) lv (.int (Int32.ofNat x.1) :: r) σ
          | none => none)
    | _ => none)
  | .getfield _ => (match st with
    | .ref c :: r => bif d == 1 then cx (ck c = 5 + a) (pc + len) lv (.long (σ.2 c b) :: r) σ
        else bif d == 2 then cx (ck c = 5 + a) (pc + len) lv (.ref (rf c b) :: r) σ
        else cx (ck c = 5 + a) (pc + len) lv (.int (σ.1 c b) :: r) σ
    | _ => none)
  | .putfield _ => (match st with
    | .int x :: .ref c :: r => bif d == 0 then cx (ck c = 5 + a) (pc + len) lv r (si σ c b x)
        else bif d == 3 then cx (ck c = 5 + a ∧ nb x) (pc + len) lv r (si σ c b x) else none
    | .long x :: .ref c :: r => bif d == 1 then cx (ck c = 5 + a) (pc + len) lv r (sl σ c b x) else none
    | _ => none)
  | .getstatic _ => nx (pc + len) lv (.ref a :: st) σ
  | .invokestatic _ => bif d == 7 then (match st with
      | .int n :: .int dp :: .ref c1 :: .int sp :: .ref c0 :: r => cx ((ck c0 = 0 ∧ ck c1 = 0 ∧ (r.map fun v => v.category).sum ≤ 8) ∧ (¬ sp < 0 ∧ ¬ dp < 0 ∧ ¬ n < 0) ∧ sp.toNatClampNeg + n.toNatClampNeg ≤ al c0 ∧ dp.toNatClampNeg + n.toNatClampNeg ≤ al c1) (pc + len) lv r (scp σ c0 c1 sp.toNatClampNeg dp.toNatClampNeg n.toNatClampNeg)
      | _ => none)
    else bif d == 8 then (match st with
      | .int x :: r => cx ((r.map fun v => v.category).sum ≤ 8) (pc + len) lv (.int (iabs x) :: r) σ
      | _ => none)
    else bif d == 9 then (match st with
      | .long x :: r => cx ((r.map fun v => v.category).sum ≤ 8) (pc + len) lv (.long (labs x) :: r) σ
      | _ => none)
    else bif d == 10 then (match st with
      | .int y :: .int x :: r => cx ((r.map fun v => v.category).sum ≤ 8) (pc + len) lv (.int (imax x y) :: r) σ
      | _ => none)
    else bif d == 11 then (match st with
      | .int y :: .int x :: r => cx ((r.map fun v => v.category).sum ≤ 8) (pc + len) lv (.int (imin x y) :: r) σ
      | _ => none)
    else none
  | _ => none
/-- a row of instructions, one behind the other -/
def blk (X : RO) : List Ent → PS → Res
  | [], s => some ([], s)
  | e :: l, (pc, lv, st, σ) => bif e.1 == pc then
      (match exec1 X e lv st σ with
      | none => none
      | some (c1, s1) => (match blk X l s1 with
        | none => none
        | some (c2, s2) => some (c1 ++ c2, s2)))
    else none
/-- what a return gives back, and on what condition (a = 1: a boolean) -/
def retv (e : Ent) (st : List Value) : Option (Prop × Option Value) :=
  match e with
  | (_, ins, _, a, _, _, _) =>
  match ins with
  | .ireturn => (match st with
    | [.int x] => bif a == 1 then some (nb x, some (.int x)) else some (True, some (.int x))
    | _ => none)
  | .lreturn => (match st with
    | [.long x] => some (True, some (.long x))
    | _ => none)
  | .areturn => (match st with
    | [.ref x] => some (True, some (.ref x))
    | _ => none)
  | .return_ => (match st with
    | [] => some (True, none)
    | _ => none)
  | _ => none
/-- the arguments of a call (the object first), what is left, on what condition: n values; k: the object's class, 0 for a static one -/
def popn : Nat → List Value → List Value → Option (List Value × List Value)
  | 0, acc, st => some (acc, st)
  | n + 1, acc, v :: st => popn n (v :: acc) st
  | _ + 1, _, [] => none
def icall (e : Ent) (st : List Value) : Option (Prop × List Value × List Value) :=
  match e with
  | (_, ins, _, _, b, d, _) =>
  match ins with
  | .invokestatic _ => bif Nat.blt 6 d then none else (match popn b [] st with
    | some (as, r) => some ((r.map fun v => v.category).sum ≤ 8, as, r)
    | none => none)
  | .invokevirtual _ => (match popn b [] st with
    | some (as, .ref c :: r) => some (ck c = 5 + d ∧ (r.map fun v => v.category).sum ≤ 8, .ref c :: as, r)
    | _ => none)
  | _ => none
abbrev Env1 : Type := Nat → List Value → Sg → (Option Value → Sg → Prop) → Prop
/-- from here the method returns, with Q; G: what its calls do; cs: its rows -/
def Rch (X : RO) (G : Env1) (cs : List (List Ent)) (Q : Option Value → Sg → Prop) : Nat → PS → Prop
  | 0, _ => False
  | n + 1, (pc, lv, st, σ) =>
    (∃ (k : Nat) (l : List Ent) (c : List Prop) (s2 : PS), cs[k]? = some l ∧ blk X l (pc, lv, st, σ) = some (c, s2) ∧ conj c ∧ Rch X G cs Q n s2) ∨
    (∃ (ks : List Nat) (lv2 : LV), lv_pick lv ks = lv2 ∧ Rch X G cs Q n (pc, lv2, st, σ)) ∨
    (∃ (k : Nat) (e : Ent) (c : Prop) (as r : List Value), cs[k]? = some [e] ∧ e.1 = pc ∧ icall e st = some (c, as, r) ∧ c ∧ G e.2.2.2.1 as σ (fun v σ2 => Rch X G cs Q n (pc + 3, lv, v.toList ++ r, σ2))) ∨
    (∃ (k : Nat) (e : Ent) (c : Prop) (v : Option Value), cs[k]? = some [e] ∧ e.1 = pc ∧ retv e st = some (c, v) ∧ c ∧ Q v σ)
theorem Rch.mono {X : RO} {G G2 : Env1} {cs : List (List Ent)} {Q Q2 : Option Value → Sg → Prop} (hQ : ∀ v σ, Q v σ → Q2 v σ) (hG : ∀ m as σ P P2, (∀ v σ, P v σ → P2 v σ) → G m as σ P → G2 m as σ P2) : ∀ (n : Nat) (s : PS), Rch X G cs Q n s → Rch X G2 cs Q2 n s := by
  intro n
  induction n with
  | zero => intro s h; exact h.elim
  | succ n ih =>
    intro s h
    obtain ⟨pc, lv, st, σ⟩ := s
    rcases h with ⟨k, l, c, s2, h1, h2, h3, h4⟩ | ⟨ks, lv2, h1, h2⟩ | ⟨k, e, c, as, r, h1, h2, h3, h4, h5⟩ | ⟨k, e, c, v, h1, h2, h3, h4, h5⟩
    · exact Or.inl ⟨k, l, c, s2, h1, h2, h3, ih _ h4⟩
    · exact Or.inr (Or.inl ⟨ks, lv2, h1, ih _ h2⟩)
    · exact Or.inr (Or.inr (Or.inl ⟨k, e, c, as, r, h1, h2, h3, h4, hG _ _ _ _ _ (fun v σ2 h => ih _ h) h5⟩))
    · exact Or.inr (Or.inr (Or.inr ⟨k, e, c, v, h1, h2, h3, h4, hQ _ _ h5⟩))
theorem Rch.up {X : RO} {G : Env1} {cs : List (List Ent)} {Q : Option Value → Sg → Prop} (hG : ∀ m as σ P P2, (∀ v σ, P v σ → P2 v σ) → G m as σ P → G m as σ P2) : ∀ (n : Nat) (s : PS), Rch X G cs Q n s → Rch X G cs Q (n + 1) s := by
  intro n
  induction n with
  | zero => intro s h; exact h.elim
  | succ n ih =>
    intro s h
    obtain ⟨pc, lv, st, σ⟩ := s
    rcases h with ⟨k, l, c, s2, h1, h2, h3, h4⟩ | ⟨ks, lv2, h1, h2⟩ | ⟨k, e, c, as, r, h1, h2, h3, h4, h5⟩ | ⟨k, e, c, v, h1, h2, h3, h4, h5⟩
    · exact Or.inl ⟨k, l, c, s2, h1, h2, h3, ih _ h4⟩
    · exact Or.inr (Or.inl ⟨ks, lv2, h1, ih _ h2⟩)
    · exact Or.inr (Or.inr (Or.inl ⟨k, e, c, as, r, h1, h2, h3, h4, hG _ _ _ _ _ (fun v σ2 h => ih _ h) h5⟩))
    · exact Or.inr (Or.inr (Or.inr ⟨k, e, c, v, h1, h2, h3, h4, h5⟩))
/-- somehow, in some number of steps -/
def Rc (X : RO) (G : Env1) (cs : List (List Ent)) (s : PS) (Q : Option Value → Sg → Prop) : Prop := ∃ n, Rch X G cs Q n s
theorem Rc.blk {X : RO} {G : Env1} {cs : List (List Ent)} {Q : Option Value → Sg → Prop} {pc : Nat} {lv : LV} {st : List Value} {σ : Sg} (k : Nat) {l : List Ent} {c : List Prop} {s2 : PS} (h1 : cs[k]? = some l) (h2 : blk X l (pc, lv, st, σ) = some (c, s2)) (h3 : conj c) (h4 : Rc X G cs s2 Q) : Rc X G cs (pc, lv, st, σ) Q := by
  obtain ⟨n, h⟩ := h4
  exact ⟨n + 1, Or.inl ⟨k, l, c, s2, h1, h2, h3, h⟩⟩
theorem Rc.pick {X : RO} {G : Env1} {cs : List (List Ent)} {Q : Option Value → Sg → Prop} {pc : Nat} {lv lv2 : LV} {st : List Value} {σ : Sg} (ks : List Nat) (h1 : lv_pick lv ks = lv2) (h2 : Rc X G cs (pc, lv2, st, σ) Q) : Rc X G cs (pc, lv, st, σ) Q := by
  obtain ⟨n, h⟩ := h2
  exact ⟨n + 1, Or.inr (Or.inl ⟨ks, lv2, h1, h⟩)⟩
theorem Rc.ret {X : RO} {G : Env1} {cs : List (List Ent)} {Q : Option Value → Sg → Prop} {pc : Nat} {lv : LV} {st : List Value} {σ : Sg} (k : Nat) {e : Ent} {c : Prop} {v : Option Value} (h1 : cs[k]? = some [e]) (h2 : e.1 = pc) (h3 : retv e st = some (c, v)) (h4 : c) (h5 : Q v σ) : Rc X G cs (pc, lv, st, σ) Q := ⟨1, Or.inr (Or.inr (Or.inr ⟨k, e, c, v, h1, h2, h3, h4, h5⟩))⟩
/-- a call whose answer is known -/
theorem Rc.call {X : RO} {G : Env1} {cs : List (List Ent)} {Q : Option Value → Sg → Prop} (hG : ∀ m as σ P P2, (∀ v σ, P v σ → P2 v σ) → G m as σ P → G m as σ P2) {pc : Nat} {lv : LV} {st : List Value} {σ : Sg} (k : Nat) {e : Ent} {c : Prop} {as r : List Value} {mi : Nat} {v : Option Value} {σ2 : Sg} (h1 : cs[k]? = some [e]) (h2 : e.1 = pc) (hm : e.2.2.2.1 = mi) (h3 : icall e st = some (c, as, r)) (h4 : c) (h5 : G mi as σ (fun v' σ' => v' = v ∧ σ' = σ2)) (h6 : Rc X G cs (pc + 3, lv, v.toList ++ r, σ2) Q) : Rc X G cs (pc, lv, st, σ) Q := by
  obtain ⟨n, h⟩ := h6
  subst hm
  exact ⟨n + 1, Or.inr (Or.inr (Or.inl ⟨k, e, c, as, r, h1, h2, h3, h4, hG _ _ _ _ _ (fun v' σ' hh => by obtain ⟨rfl, rfl⟩ := hh; exact h) h5⟩))⟩
