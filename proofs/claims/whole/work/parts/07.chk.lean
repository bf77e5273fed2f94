/-! ===== what the instructions link to, out of the tables' words ===== -/
def RJ6 : String := "java/lang/Integer"
def RJ9 : String := "java/lang/Math"
def RJ7 : String := "java/util/Arrays"
def RL : String := "PureGroupsLaw"
theorem tb_in (ws : List Cond) (ps : List Nat) (hp : ws = ps.filterMap (fun i => lw_tbl[i]?)) (h : ws.all goodWord = true) : ∀ w ∈ ws, w ∈ TB := by
  intro w hw
  have h1 := List.all_eq_true.mp h w hw
  rw [hp] at hw
  obtain ⟨i, -, hi⟩ := List.mem_filterMap.mp hw
  exact List.mem_filter.mpr ⟨List.mem_of_getElem? hi, h1⟩
abbrev Lnk : Type := Nat × Nat × Nat × Nat × Nat × Int
def LnkOK (M : Nat → MI) (own : String) (q : Lnk) : Prop := match q with
  | (0, idx, a, b, d, _) => FldOK own idx a b d false
  | (1, idx, a, b, d, _) => FldOK own idx a b d true
  | (2, idx, a, _, _, _) => StaOK own idx a
  | (3, idx, a, b, d, _) => VirOK M own idx a b d
  | (4, idx, a, b, _, _) => StmOK M own idx a b
  | (8, idx, _, _, _, _) => ArcOK own idx
  | (9, idx, _, _, _, _) => MabOK own idx
  | (10, idx, _, _, _, _) => MalOK own idx
  | (11, idx, _, _, _, _) => MaxOK own idx
  | (12, idx, _, _, _, _) => MinOK own idx
  | (6, idx, _, _, _, z) => Cond.constant own idx (Int32.ofInt z) ∈ TB
  | (_, idx, _, _, _, z) => Cond.constantLong own idx (Int64.ofInt z) ∈ TB
def chkE (cc : ByteArray) (nL : Nat) (ret : Option FieldType) (lk : List Lnk) (e : Ent) : Bool :=
  decide (decode cc e.1 = .ok (e.2.1, e.2.2.1)) && (match e with
  | (pc, ins, len, a, b, d, zs) => (match ins with
    | .tableswitch df lo hi offs => decide ((pc : Int) + df = (a : Int)) && decide (hi = lo + zs.length - 1) && decide (-2147483648 ≤ lo) && decide (hi ≤ 2147483647) && (List.range zs.length).all (fun i => match offs[i]? with
      | some off => decide ((pc : Int) + off = ((zs.getD i 0).toNat : Int))
      | none => false)
    | _ => len == ilen ins) && (match ins with
    | .istore i => Nat.blt i nL
    | .istore_n k => Nat.blt k.val nL
    | .astore i => Nat.blt i nL
    | .astore_n k => Nat.blt k.val nL
    | .lstore i => Nat.blt (i + 1) nL
    | .lstore_n k => Nat.blt (k.val + 1) nL
    | .iinc i _ => Nat.blt i nL
    | .bipush n => decide ((Int8.ofInt n).toInt32 = Int32.ofInt n)
    | .sipush n => decide ((Int16.ofInt n).toInt32 = Int32.ofInt n)
    | .ldc idx => (match zs with | z :: _ => lk.contains (6, idx, 0, 0, 0, z) | [] => false)
    | .ldc_w idx => (match zs with | z :: _ => lk.contains (6, idx, 0, 0, 0, z) | [] => false)
    | .ldc2_w idx => (match zs with | z :: _ => lk.contains (7, idx, 0, 0, 0, z) | [] => false)
    | .ifCond _ off => decide ((pc : Int) + off = (a : Int))
    | .if_icmp _ off => decide ((pc : Int) + off = (a : Int))
    | .goto off => decide ((pc : Int) + off = (a : Int))
    | .getfield idx => lk.contains (0, idx, a, b, d, 0)
    | .putfield idx => lk.contains (1, idx, a, b, d, 0)
    | .getstatic idx => lk.contains (2, idx, a, 0, 0, 0)
    | .invokevirtual idx => lk.contains (3, idx, a, b, d, 0)
    | .invokestatic idx => bif Nat.blt 6 d then (Nat.ble d 11 && lk.contains (d + 1, idx, 0, 0, 0, 0)) else lk.contains (4, idx, a, b, 0, 0)
    | .ireturn => (a == 0 && decide (ret = some .int)) || (a == 1 && decide (ret = some .boolean))
    | .lreturn => decide (ret = some .long)
    | .areturn => decide (ret = some (.array .int))
    | .return_ => decide (ret = none)
    | _ => true))
theorem and_r {a b : Bool} (h : (a && b) = true) : b = true := (Bool.and_eq_true_iff.mp h).2
theorem chkE_ok {M : Nat → MI} {own : String} {cc : ByteArray} {nL : Nat} {ret : Option FieldType} {lk : List Lnk} (hlk : ∀ q ∈ lk, LnkOK M own q) {e : Ent} (h : chkE cc nL ret lk e = true) : EntOK M own cc nL e ∧ RetOK ret e := by
  obtain ⟨pc, ins, len, a, b, d, zs⟩ := e
  simp only [chkE, Bool.and_eq_true, decide_eq_true_eq] at h
  obtain ⟨h1, h2, h3⟩ := h
  have hc : ∀ q : Lnk, lk.contains q = true → LnkOK M own q := fun q hq => hlk q (by simpa using hq)
  cases ins with
  | tableswitch df lo hi offs =>
    simp only [Bool.and_eq_true, decide_eq_true_eq, List.all_eq_true] at h2
    obtain ⟨⟨⟨⟨g1, g2⟩, g3⟩, g4⟩, g5⟩ := h2
    refine ⟨⟨h1, ⟨g1, g2, ⟨g3, g4⟩, fun i hi => ?_⟩, fun h => absurd rfl (h df lo hi offs)⟩, trivial⟩
    have := g5 i (List.mem_range.mpr hi)
    split at this
    · rename_i off ho
      exact ⟨off, ho, by simpa using this⟩
    · cases this
  | istore i => exact ⟨⟨h1, by simpa using h3, fun _ => by simpa using h2⟩, trivial⟩
  | istore_n i => exact ⟨⟨h1, by simpa using h3, fun _ => by simpa using h2⟩, trivial⟩
  | astore i => exact ⟨⟨h1, by simpa using h3, fun _ => by simpa using h2⟩, trivial⟩
  | astore_n i => exact ⟨⟨h1, by simpa using h3, fun _ => by simpa using h2⟩, trivial⟩
  | lstore i => exact ⟨⟨h1, by simpa using h3, fun _ => by simpa using h2⟩, trivial⟩
  | lstore_n i => exact ⟨⟨h1, by simpa using h3, fun _ => by simpa using h2⟩, trivial⟩
  | iinc i n => exact ⟨⟨h1, by simpa using h3, fun _ => by simpa using h2⟩, trivial⟩
  | bipush n => exact ⟨⟨h1, by simpa using h3, fun _ => by simpa using h2⟩, trivial⟩
  | sipush n => exact ⟨⟨h1, by simpa using h3, fun _ => by simpa using h2⟩, trivial⟩
  | ldc idx =>
    match zs, h3 with
    | z :: r, h3 => exact ⟨⟨h1, ⟨z, r, rfl, hc _ h3⟩, fun _ => by simpa using h2⟩, trivial⟩
  | ldc_w idx =>
    match zs, h3 with
    | z :: r, h3 => exact ⟨⟨h1, ⟨z, r, rfl, hc _ h3⟩, fun _ => by simpa using h2⟩, trivial⟩
  | ldc2_w idx =>
    match zs, h3 with
    | z :: r, h3 => exact ⟨⟨h1, ⟨z, r, rfl, hc _ h3⟩, fun _ => by simpa using h2⟩, trivial⟩
  | ifCond cd off => exact ⟨⟨h1, by simpa using h3, fun _ => by simpa using h2⟩, trivial⟩
  | if_icmp cd off => exact ⟨⟨h1, by simpa using h3, fun _ => by simpa using h2⟩, trivial⟩
  | goto off => exact ⟨⟨h1, by simpa using h3, fun _ => by simpa using h2⟩, trivial⟩
  | getfield idx => exact ⟨⟨h1, hc _ h3, fun _ => by simpa using h2⟩, trivial⟩
  | putfield idx => exact ⟨⟨h1, hc _ h3, fun _ => by simpa using h2⟩, trivial⟩
  | getstatic idx => exact ⟨⟨h1, hc _ h3, fun _ => by simpa using h2⟩, trivial⟩
  | invokevirtual idx => exact ⟨⟨h1, hc _ h3, fun _ => by simpa using h2⟩, trivial⟩
  | invokestatic idx =>
    refine ⟨⟨h1, ⟨fun hd => ?_, fun hd => ?_, fun hd => ?_, fun hd => ?_, fun hd => ?_, fun hd => ?_⟩, fun _ => by simpa using h2⟩, trivial⟩
    · subst hd
      exact hc (8, idx, 0, 0, 0, 0) (and_r (a := Nat.ble 7 11) h3)
    · have hb : Nat.blt 6 d = false := by
        cases hz : Nat.blt 6 d with
        | false => rfl
        | true => exact absurd (Nat.blt_eq.mp hz) hd
      simp only [hb, cond_false] at h3
      exact hc _ h3
    · subst hd
      exact hc (9, idx, 0, 0, 0, 0) (and_r (a := Nat.ble 8 11) h3)
    · subst hd
      exact hc (10, idx, 0, 0, 0, 0) (and_r (a := Nat.ble 9 11) h3)
    · subst hd
      exact hc (11, idx, 0, 0, 0, 0) (and_r (a := Nat.ble 10 11) h3)
    · subst hd
      exact hc (12, idx, 0, 0, 0, 0) (and_r (a := Nat.ble 11 11) h3)
  | ireturn =>
    simp only [Bool.or_eq_true, Bool.and_eq_true, beq_iff_eq, decide_eq_true_eq] at h3
    exact ⟨⟨h1, trivial, fun _ => by simpa using h2⟩, h3⟩
  | lreturn => exact ⟨⟨h1, trivial, fun _ => by simpa using h2⟩, show ret = some .long by simpa using h3⟩
  | areturn => exact ⟨⟨h1, trivial, fun _ => by simpa using h2⟩, show ret = some (.array .int) by simpa using h3⟩
  | return_ => exact ⟨⟨h1, trivial, fun _ => by simpa using h2⟩, show ret = none by simpa using h3⟩
  | _ => exact ⟨⟨h1, trivial, fun _ => by simpa using h2⟩, trivial⟩
def chkM (cc : ByteArray) (nL : Nat) (ret : Option FieldType) (lk : List Lnk) (cs : List (List Ent)) : Bool := cs.all (fun L => L.all (chkE cc nL ret lk))
theorem chkM_ok {M : Nat → MI} {own : String} {cc : ByteArray} {nL : Nat} {ret : Option FieldType} {lk : List Lnk} (hlk : ∀ q ∈ lk, LnkOK M own q) {cs : List (List Ent)} (h : chkM cc nL ret lk cs = true) : ∀ L ∈ cs, ∀ en ∈ L, EntOK M own cc nL en ∧ RetOK ret en := fun L hL en hen => chkE_ok hlk (List.all_eq_true.mp (List.all_eq_true.mp h L hL) en hen)
