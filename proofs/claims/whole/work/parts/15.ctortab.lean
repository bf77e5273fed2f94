/-! ===== the constructors' rows ===== -/
def Lnk0OK (M : Nat → MI) (own : String) (q : Lnk) : Prop := match q with
  | (0, idx, a, b, d, _) => FldOK own idx a b d false
  | (1, idx, a, b, d, _) => Put0OK own idx a b d
  | (2, idx, a, _, _, _) => NewOK own idx a
  | (3, idx, _, _, d, _) => Cond.classLink own idx ("[" ++ (FieldType.array (dk d)).toString) ∈ TB
  | (4, idx, _, _, _, _) => Cond.methodLink own idx Lib.objectInit ∈ TB
  | (_, idx, a, b, _, _) => Ini0OK own idx (M a) b
theorem arC : ∀ d, d < 3 → Cond.arrayClass (dk d) ∈ TB := by
  intro d hd
  match d, hd with
  | 0, _ => exact tb_1 70 rfl rfl
  | 1, _ => exact tb_1 127 rfl rfl
  | 2, _ => exact tb_4 221 rfl rfl
theorem obI : Cond.instanceMethod Lib.objectInit ∈ TB := tb_1 20 rfl rfl
theorem obC : Cond.code Lib.objectInit ⟨#[0xb1]⟩ 1 none ∈ TB := tb_1 21 rfl rfl
def aty : ArrayType → Nat
  | .int => 0
  | .long => 1
  | .boolean => 2
  | _ => 9
def chk0 (cc : ByteArray) (nL : Nat) (lk : List Lnk) (e : Ent) : Bool :=
  decide (decode cc e.1 = .ok (e.2.1, e.2.2.1)) && (match e with
  | (pc, ins, len, a, b, d, _) => (match ins with
    | .aload_n _ => len == 1
    | .iload_n _ => len == 1
    | .istore_n k => (len == 1) && Nat.blt k.val nL
    | .astore_n k => (len == 1) && Nat.blt k.val nL
    | .iinc i _ => (len == 3) && Nat.blt i nL
    | .iconst _ => len == 1
    | .bipush n => (len == 2) && decide ((Int8.ofInt n).toInt32 = Int32.ofInt n)
    | .sipush n => (len == 3) && decide ((Int16.ofInt n).toInt32 = Int32.ofInt n)
    | .lconst _ => len == 1
    | .dup => len == 1
    | .if_icmp .ge off => (len == 3) && decide ((pc : Int) + off = (a : Int))
    | .goto off => (len == 3) && decide ((pc : Int) + off = (a : Int))
    | .new idx => (len == 3) && lk.contains (2, idx, a, 0, 0, 0)
    | .newarray t => (len == 2) && (aty t == d) && Nat.blt d 3
    | .multianewarray idx n => (len == 4) && (n == 2) && lk.contains (3, idx, 0, 0, d, 0) && Nat.blt d 3
    | .putfield idx => (len == 3) && lk.contains (1, idx, a, b, d, 0)
    | .getfield idx => (len == 3) && lk.contains (0, idx, a, b, d, 0)
    | .iastore => len == 1
    | .return_ => len == 1
    | .invokespecial idx => (len == 3) && (bif d == 5 then lk.contains (4, idx, 0, 0, 0, 0) else lk.contains (5, idx, a, b, 0, 0))
    | _ => false))
theorem chk0_ok {M : Nat → MI} {own : String} {cc : ByteArray} {nL : Nat} {lk : List Lnk} (hlk : ∀ q ∈ lk, Lnk0OK M own q) {e : Ent} (h : chk0 cc nL lk e = true) : Ent0OK M own cc nL e := by
  obtain ⟨pc, ins, len, a, b, d, zs⟩ := e
  simp only [chk0, Bool.and_eq_true, decide_eq_true_eq] at h
  obtain ⟨h1, h3⟩ := h
  have hc : ∀ q : Lnk, lk.contains q = true → Lnk0OK M own q := fun q hq => hlk q (by simpa using hq)
  cases ins with
  | aload_n _ => exact ⟨h1, by simpa using h3⟩
  | iload_n _ => exact ⟨h1, by simpa using h3⟩
  | istore_n k => exact ⟨h1, by simpa using h3⟩
  | astore_n k => exact ⟨h1, by simpa using h3⟩
  | iinc i _ => exact ⟨h1, by simpa using h3⟩
  | iconst _ => exact ⟨h1, by simpa using h3⟩
  | bipush n => exact ⟨h1, by simpa using h3⟩
  | sipush n => exact ⟨h1, by simpa using h3⟩
  | lconst _ => exact ⟨h1, by simpa using h3⟩
  | dup => exact ⟨h1, by simpa using h3⟩
  | if_icmp cd off =>
    cases cd with
    | ge => exact ⟨h1, by simpa using h3⟩
    | _ => cases h3
  | goto off => exact ⟨h1, by simpa using h3⟩
  | new idx =>
    simp only [Bool.and_eq_true, beq_iff_eq] at h3
    exact ⟨h1, h3.1, hc _ h3.2⟩
  | newarray t =>
    simp only [Bool.and_eq_true, beq_iff_eq, Nat.blt_eq] at h3
    obtain ⟨⟨e1, e2⟩, e3⟩ := h3
    have ht : newarray.typeOf t = dk d := by
      rw [← e2] at e3 ⊢
      cases t <;> first | rfl | (simp [aty] at e3)
    exact ⟨h1, e1, by rw [ht]; exact arC d e3, ht⟩
  | multianewarray idx n =>
    simp only [Bool.and_eq_true, beq_iff_eq, Nat.blt_eq] at h3
    obtain ⟨⟨⟨e1, e2⟩, e3⟩, e4⟩ := h3
    exact ⟨h1, e1, e2, hc _ e3, arC d e4⟩
  | putfield idx =>
    simp only [Bool.and_eq_true, beq_iff_eq] at h3
    exact ⟨h1, h3.1, hc _ h3.2⟩
  | getfield idx =>
    simp only [Bool.and_eq_true, beq_iff_eq] at h3
    exact ⟨h1, h3.1, hc _ h3.2⟩
  | iastore => exact ⟨h1, by simpa using h3⟩
  | return_ => exact ⟨h1, by simpa using h3⟩
  | invokespecial idx =>
    simp only [Bool.and_eq_true, beq_iff_eq] at h3
    obtain ⟨e1, e2⟩ := h3
    refine ⟨h1, e1, fun hd => ?_, fun hd => ?_⟩
    · subst hd
      exact ⟨hc (4, idx, 0, 0, 0, 0) e2, obI, obC⟩
    · subst hd
      exact hc (5, idx, a, b, 0, 0) e2
  | _ => cases h3
def mc0 : MI := (⟨RX7, "<init>", "()V"⟩, prog_1_method_1_code, 1, none)
def mc1 : MI := (⟨RX3, "<init>", "()V"⟩, prog_5_method_1_code, 1, none)
def mc2 : MI := (⟨RX2, "<init>", "()V"⟩, prog_4_method_1_code, 1, none)
def mc3 : MI := (⟨RX6, "<init>", "()V"⟩, prog_8_method_1_code, 1, none)
def mc4 : MI := (⟨RX1, "<init>", "()V"⟩, prog_3_method_1_code, 1, none)
def mc5 : MI := (⟨RX0, "<init>", "(LPureGroups$Space;)V"⟩, prog_2_method_1_code, 2, none)
def mc6 : MI := (⟨RX5, "<init>", "(LPureGroups$Space;)V"⟩, prog_7_method_1_code, 2, none)
def mc7 : MI := (⟨RX4, "<init>", "(LPureGroups$Space;)V"⟩, prog_6_method_1_code, 2, none)
def mc8 : MI := (⟨RX8, "<init>", "()V"⟩, prog_10_method_1_code, 2, none)
def MC (k : Nat) : MI := ([mc0, mc1, mc2, mc3, mc4, mc5, mc6, mc7, mc8] : List MI).getD k mc0
theorem kc0_0 : Lnk0OK MC RX7 (4, 1, 0, 0, 0, 0) := tb_1 19 rfl rfl
theorem kc0_1 : Lnk0OK MC RX7 (2, 7, 3, 0, 0, 0) := ⟨RX3, TX3, tyX3, rfl, uw3, tyX3_ok, by decide +kernel, tb_1 22 rfl rfl, tb_1 23 rfl rfl, tb_1 2 rfl rfl⟩
theorem kc0_2 : Lnk0OK MC RX7 (5, 9, 1, 0, 0, 0) := ⟨⟨by decide +kernel, rfl, rfl⟩, tb_1 26 rfl rfl, tb_1 2 rfl rfl, ⟨by decide +kernel, by decide +kernel⟩, by decide +kernel, Or.inr ⟨"PureGroups", lw_1 24 rfl⟩, tb_1 25 rfl rfl⟩
theorem kc0_3 : Lnk0OK MC RX7 (1, 10, 7, 0, 2, 0) := ⟨RX7, TX7, 16, tyX7, rfl, rfl, by decide +kernel, by decide +kernel, uw7, tb_2 41 rfl rfl, tyX7_ok, nmX7, rfl, Or.inr (Or.inr ⟨rfl, Or.inl ⟨_, rfl⟩⟩)⟩
theorem kc0_4 : Lnk0OK MC RX7 (1, 16, 7, 1, 2, 0) := ⟨RX7, TX7, 16, tyX7, rfl, rfl, by decide +kernel, by decide +kernel, uw7, tb_2 42 rfl rfl, tyX7_ok, nmX7, rfl, Or.inr (Or.inr ⟨rfl, Or.inl ⟨_, rfl⟩⟩)⟩
theorem kc0_5 : Lnk0OK MC RX7 (2, 19, 2, 0, 0, 0) := ⟨RX2, TX2, tyX2, rfl, uw2, tyX2_ok, by decide +kernel, tb_1 71 rfl rfl, tb_1 72 rfl rfl, tb_1 3 rfl rfl⟩
theorem kc0_6 : Lnk0OK MC RX7 (5, 21, 2, 0, 0, 0) := ⟨⟨by decide +kernel, rfl, rfl⟩, tb_1 75 rfl rfl, tb_1 3 rfl rfl, ⟨by decide +kernel, by decide +kernel⟩, by decide +kernel, Or.inr ⟨"PureGroups", lw_1 73 rfl⟩, tb_1 74 rfl rfl⟩
theorem kc0_7 : Lnk0OK MC RX7 (1, 22, 7, 3, 2, 0) := ⟨RX7, TX7, 16, tyX7, rfl, rfl, by decide +kernel, by decide +kernel, uw7, tb_2 44 rfl rfl, tyX7_ok, nmX7, rfl, Or.inr (Or.inr ⟨rfl, Or.inl ⟨_, rfl⟩⟩)⟩
theorem kc0_8 : Lnk0OK MC RX7 (2, 26, 6, 0, 0, 0) := ⟨RX6, TX6, tyX6, rfl, uw6, tyX6_ok, by decide +kernel, tb_1 89 rfl rfl, tb_1 90 rfl rfl, tb_1 4 rfl rfl⟩
theorem kc0_9 : Lnk0OK MC RX7 (5, 28, 3, 0, 0, 0) := ⟨⟨by decide +kernel, rfl, rfl⟩, tb_1 93 rfl rfl, tb_1 4 rfl rfl, ⟨by decide +kernel, by decide +kernel⟩, by decide +kernel, Or.inr ⟨"PureGroups", lw_1 91 rfl⟩, tb_1 92 rfl rfl⟩
theorem kc0_10 : Lnk0OK MC RX7 (1, 29, 7, 4, 2, 0) := ⟨RX7, TX7, 16, tyX7, rfl, rfl, by decide +kernel, by decide +kernel, uw7, tb_2 45 rfl rfl, tyX7_ok, nmX7, rfl, Or.inr (Or.inr ⟨rfl, Or.inl ⟨_, rfl⟩⟩)⟩
theorem kc0_11 : Lnk0OK MC RX7 (2, 33, 0, 0, 0, 0) := ⟨RX0, TX0, tyX0, rfl, uw0, tyX0_ok, by decide +kernel, tb_1 157 rfl rfl, tb_1 158 rfl rfl, tb_1 6 rfl rfl⟩
theorem kc0_12 : Lnk0OK MC RX7 (0, 29, 7, 4, 2, 0) := ⟨RX7, TX7, 16, tyX7, rfl, rfl, by decide +kernel, by decide +kernel, uw7, tb_2 45 rfl rfl, tyX7_ok, nmX7, fun h => by cases h⟩
theorem kc0_13 : Lnk0OK MC RX7 (5, 35, 5, 1, 0, 0) := ⟨⟨by decide +kernel, rfl, rfl⟩, tb_1 161 rfl rfl, tb_1 6 rfl rfl, ⟨by decide +kernel, by decide +kernel⟩, by decide +kernel, Or.inl (tb_1 159 rfl rfl), tb_1 160 rfl rfl⟩
theorem kc0_14 : Lnk0OK MC RX7 (1, 38, 7, 5, 2, 0) := ⟨RX7, TX7, 16, tyX7, rfl, rfl, by decide +kernel, by decide +kernel, uw7, tb_2 46 rfl rfl, tyX7_ok, nmX7, rfl, Or.inr (Or.inr ⟨rfl, Or.inl ⟨_, rfl⟩⟩)⟩
theorem kc0_15 : Lnk0OK MC RX7 (2, 42, 5, 0, 0, 0) := ⟨RX5, TX5, tyX5, rfl, uw5, tyX5_ok, by decide +kernel, tb_1 198 rfl rfl, tb_1 199 rfl rfl, tb_1 7 rfl rfl⟩
theorem kc0_16 : Lnk0OK MC RX7 (5, 44, 6, 1, 0, 0) := ⟨⟨by decide +kernel, rfl, rfl⟩, tb_1 202 rfl rfl, tb_1 7 rfl rfl, ⟨by decide +kernel, by decide +kernel⟩, by decide +kernel, Or.inl (tb_1 200 rfl rfl), tb_1 201 rfl rfl⟩
theorem kc0_17 : Lnk0OK MC RX7 (1, 45, 7, 6, 2, 0) := ⟨RX7, TX7, 16, tyX7, rfl, rfl, by decide +kernel, by decide +kernel, uw7, tb_2 47 rfl rfl, tyX7_ok, nmX7, rfl, Or.inr (Or.inr ⟨rfl, Or.inl ⟨_, rfl⟩⟩)⟩
theorem kc0_18 : Lnk0OK MC RX7 (2, 49, 4, 0, 0, 0) := ⟨RX4, TX4, tyX4, rfl, uw4, tyX4_ok, by decide +kernel, tb_1 228 rfl rfl, tb_1 229 rfl rfl, tb_1 8 rfl rfl⟩
theorem kc0_19 : Lnk0OK MC RX7 (5, 51, 7, 1, 0, 0) := ⟨⟨by decide +kernel, rfl, rfl⟩, tb_1 232 rfl rfl, tb_1 8 rfl rfl, ⟨by decide +kernel, by decide +kernel⟩, by decide +kernel, Or.inl (tb_1 230 rfl rfl), tb_1 231 rfl rfl⟩
theorem kc0_20 : Lnk0OK MC RX7 (1, 52, 7, 7, 2, 0) := ⟨RX7, TX7, 16, tyX7, rfl, rfl, by decide +kernel, by decide +kernel, uw7, tb_2 48 rfl rfl, tyX7_ok, nmX7, rfl, Or.inr (Or.inr ⟨rfl, Or.inl ⟨_, rfl⟩⟩)⟩
theorem kc0_21 : Lnk0OK MC RX7 (1, 56, 7, 8, 2, 0) := ⟨RX7, TX7, 16, tyX7, rfl, rfl, by decide +kernel, by decide +kernel, uw7, tb_2 49 rfl rfl, tyX7_ok, nmX7, rfl, Or.inr (Or.inr ⟨rfl, Or.inr ⟨_, rfl⟩⟩)⟩
theorem kc0_22 : Lnk0OK MC RX7 (3, 60, 0, 0, 0, 0) := tb_2 40 rfl rfl
theorem kc0_23 : Lnk0OK MC RX7 (1, 62, 7, 10, 2, 0) := ⟨RX7, TX7, 16, tyX7, rfl, rfl, by decide +kernel, by decide +kernel, uw7, tb_2 51 rfl rfl, tyX7_ok, nmX7, rfl, Or.inr (Or.inr ⟨rfl, Or.inr ⟨_, rfl⟩⟩)⟩
theorem kc0_24 : Lnk0OK MC RX7 (1, 65, 7, 11, 2, 0) := ⟨RX7, TX7, 16, tyX7, rfl, rfl, by decide +kernel, by decide +kernel, uw7, tb_2 52 rfl rfl, tyX7_ok, nmX7, rfl, Or.inr (Or.inr ⟨rfl, Or.inr ⟨_, rfl⟩⟩)⟩
theorem kc0_25 : Lnk0OK MC RX7 (1, 68, 7, 12, 2, 0) := ⟨RX7, TX7, 16, tyX7, rfl, rfl, by decide +kernel, by decide +kernel, uw7, tb_2 53 rfl rfl, tyX7_ok, nmX7, rfl, Or.inr (Or.inr ⟨rfl, Or.inr ⟨_, rfl⟩⟩)⟩
theorem kc0_26 : Lnk0OK MC RX7 (1, 71, 7, 13, 2, 0) := ⟨RX7, TX7, 16, tyX7, rfl, rfl, by decide +kernel, by decide +kernel, uw7, tb_2 54 rfl rfl, tyX7_ok, nmX7, rfl, Or.inr (Or.inr ⟨rfl, Or.inr ⟨_, rfl⟩⟩)⟩
theorem kc0_27 : Lnk0OK MC RX7 (1, 74, 7, 14, 2, 0) := ⟨RX7, TX7, 16, tyX7, rfl, rfl, by decide +kernel, by decide +kernel, uw7, tb_2 55 rfl rfl, tyX7_ok, nmX7, rfl, Or.inr (Or.inr ⟨rfl, Or.inr ⟨_, rfl⟩⟩)⟩
theorem kc0_28 : Lnk0OK MC RX7 (1, 77, 7, 15, 2, 0) := ⟨RX7, TX7, 16, tyX7, rfl, rfl, by decide +kernel, by decide +kernel, uw7, tb_2 56 rfl rfl, tyX7_ok, nmX7, rfl, Or.inr (Or.inr ⟨rfl, Or.inr ⟨_, rfl⟩⟩)⟩
def kc0 : List Lnk := [(4, 1, 0, 0, 0, 0), (2, 7, 3, 0, 0, 0), (5, 9, 1, 0, 0, 0), (1, 10, 7, 0, 2, 0), (1, 16, 7, 1, 2, 0), (2, 19, 2, 0, 0, 0), (5, 21, 2, 0, 0, 0), (1, 22, 7, 3, 2, 0), (2, 26, 6, 0, 0, 0), (5, 28, 3, 0, 0, 0), (1, 29, 7, 4, 2, 0), (2, 33, 0, 0, 0, 0), (0, 29, 7, 4, 2, 0), (5, 35, 5, 1, 0, 0), (1, 38, 7, 5, 2, 0), (2, 42, 5, 0, 0, 0), (5, 44, 6, 1, 0, 0), (1, 45, 7, 6, 2, 0), (2, 49, 4, 0, 0, 0), (5, 51, 7, 1, 0, 0), (1, 52, 7, 7, 2, 0), (1, 56, 7, 8, 2, 0), (3, 60, 0, 0, 0, 0), (1, 62, 7, 10, 2, 0), (1, 65, 7, 11, 2, 0), (1, 68, 7, 12, 2, 0), (1, 71, 7, 13, 2, 0), (1, 74, 7, 14, 2, 0), (1, 77, 7, 15, 2, 0)]
theorem kc0_ok : ∀ q ∈ kc0, Lnk0OK MC RX7 q := List.forall_mem_cons.mpr ⟨kc0_0, List.forall_mem_cons.mpr ⟨kc0_1, List.forall_mem_cons.mpr ⟨kc0_2, List.forall_mem_cons.mpr ⟨kc0_3, List.forall_mem_cons.mpr ⟨kc0_4, List.forall_mem_cons.mpr ⟨kc0_5, List.forall_mem_cons.mpr ⟨kc0_6, List.forall_mem_cons.mpr ⟨kc0_7, List.forall_mem_cons.mpr ⟨kc0_8, List.forall_mem_cons.mpr ⟨kc0_9, List.forall_mem_cons.mpr ⟨kc0_10, List.forall_mem_cons.mpr ⟨kc0_11, List.forall_mem_cons.mpr ⟨kc0_12, List.forall_mem_cons.mpr ⟨kc0_13, List.forall_mem_cons.mpr ⟨kc0_14, List.forall_mem_cons.mpr ⟨kc0_15, List.forall_mem_cons.mpr ⟨kc0_16, List.forall_mem_cons.mpr ⟨kc0_17, List.forall_mem_cons.mpr ⟨kc0_18, List.forall_mem_cons.mpr ⟨kc0_19, List.forall_mem_cons.mpr ⟨kc0_20, List.forall_mem_cons.mpr ⟨kc0_21, List.forall_mem_cons.mpr ⟨kc0_22, List.forall_mem_cons.mpr ⟨kc0_23, List.forall_mem_cons.mpr ⟨kc0_24, List.forall_mem_cons.mpr ⟨kc0_25, List.forall_mem_cons.mpr ⟨kc0_26, List.forall_mem_cons.mpr ⟨kc0_27, List.forall_mem_cons.mpr ⟨kc0_28, fun _ h => absurd h List.not_mem_nil⟩⟩⟩⟩⟩⟩⟩⟩⟩⟩⟩⟩⟩⟩⟩⟩⟩⟩⟩⟩⟩⟩⟩⟩⟩⟩⟩⟩⟩
def cc0 : List Ent := [(0, .aload_n 0, 1, 0, 0, 0, []), (1, .invokespecial 1, 3, 0, 0, 5, []), (4, .aload_n 0, 1, 0, 0, 0, []), (5, .new 7, 3, 3, 0, 0, []), (8, .dup, 1, 0, 0, 0, []), (9, .invokespecial 9, 3, 1, 0, 6, []), (12, .putfield 10, 3, 7, 0, 2, []), (15, .aload_n 0, 1, 0, 0, 0, []), (16, .new 7, 3, 3, 0, 0, []), (19, .dup, 1, 0, 0, 0, []), (20, .invokespecial 9, 3, 1, 0, 6, []), (23, .putfield 16, 3, 7, 1, 2, []), (26, .aload_n 0, 1, 0, 0, 0, []), (27, .new 19, 3, 2, 0, 0, []), (30, .dup, 1, 0, 0, 0, []), (31, .invokespecial 21, 3, 2, 0, 6, []), (34, .putfield 22, 3, 7, 3, 2, []), (37, .aload_n 0, 1, 0, 0, 0, []), (38, .new 26, 3, 6, 0, 0, []), (41, .dup, 1, 0, 0, 0, []), (42, .invokespecial 28, 3, 3, 0, 6, []), (45, .putfield 29, 3, 7, 4, 2, []), (48, .aload_n 0, 1, 0, 0, 0, []), (49, .new 33, 3, 0, 0, 0, []), (52, .dup, 1, 0, 0, 0, []), (53, .aload_n 0, 1, 0, 0, 0, []), (54, .getfield 29, 3, 7, 4, 2, []), (57, .invokespecial 35, 3, 5, 1, 6, []), (60, .putfield 38, 3, 7, 5, 2, []), (63, .aload_n 0, 1, 0, 0, 0, []), (64, .new 42, 3, 5, 0, 0, []), (67, .dup, 1, 0, 0, 0, []), (68, .aload_n 0, 1, 0, 0, 0, []), (69, .getfield 29, 3, 7, 4, 2, []), (72, .invokespecial 44, 3, 6, 1, 6, []), (75, .putfield 45, 3, 7, 6, 2, []), (78, .aload_n 0, 1, 0, 0, 0, []), (79, .new 49, 3, 4, 0, 0, []), (82, .dup, 1, 0, 0, 0, []), (83, .aload_n 0, 1, 0, 0, 0, []), (84, .getfield 29, 3, 7, 4, 2, []), (87, .invokespecial 51, 3, 7, 1, 6, []), (90, .putfield 52, 3, 7, 7, 2, []), (93, .aload_n 0, 1, 0, 0, 0, []), (94, .bipush 72, 2, 0, 0, 0, []), (96, .newarray .int, 2, 0, 0, 0, []), (98, .putfield 56, 3, 7, 8, 2, []), (101, .aload_n 0, 1, 0, 0, 0, []), (102, .iconst 3, 1, 0, 0, 0, []), (103, .bipush 40, 2, 0, 0, 0, []), (105, .multianewarray 60 2, 4, 0, 0, 0, []), (109, .putfield 62, 3, 7, 10, 2, []), (112, .aload_n 0, 1, 0, 0, 0, []), (113, .iconst 3, 1, 0, 0, 0, []), (114, .newarray .int, 2, 0, 0, 0, []), (116, .dup, 1, 0, 0, 0, []), (117, .iconst 0, 1, 0, 0, 0, []), (118, .bipush (-11), 2, 0, 0, 0, []), (120, .iastore, 1, 0, 0, 0, []), (121, .dup, 1, 0, 0, 0, []), (122, .iconst 1, 1, 0, 0, 0, []), (123, .bipush (-11), 2, 0, 0, 0, []), (125, .iastore, 1, 0, 0, 0, []), (126, .dup, 1, 0, 0, 0, []), (127, .iconst 2, 1, 0, 0, 0, []), (128, .bipush (-11), 2, 0, 0, 0, []), (130, .iastore, 1, 0, 0, 0, []), (131, .putfield 65, 3, 7, 11, 2, []), (134, .aload_n 0, 1, 0, 0, 0, []), (135, .bipush 8, 2, 0, 0, 0, []), (137, .newarray .int, 2, 0, 0, 0, []), (139, .putfield 68, 3, 7, 12, 2, []), (142, .aload_n 0, 1, 0, 0, 0, []), (143, .bipush 8, 2, 0, 0, 0, []), (145, .newarray .int, 2, 0, 0, 0, []), (147, .putfield 71, 3, 7, 13, 2, []), (150, .aload_n 0, 1, 0, 0, 0, []), (151, .iconst 5, 1, 0, 0, 0, []), (152, .newarray .int, 2, 0, 0, 0, []), (154, .putfield 74, 3, 7, 14, 2, []), (157, .aload_n 0, 1, 0, 0, 0, []), (158, .bipush 7, 2, 0, 0, 0, []), (160, .newarray .int, 2, 0, 0, 0, []), (162, .putfield 77, 3, 7, 15, 2, []), (165, .return_, 1, 0, 0, 0, [])]
theorem ck0_0 : cc0.all (chk0 mc0.2.1 mc0.2.2.1 kc0) = true := by decide +kernel
theorem cm0 : plainName (MC 0).1.cls = true ∧ (MC 0).2.2.2 = none ∧ (MC 0).1.name = "<init>" ∧ ∀ en ∈ cc0, Ent0OK MC (MC 0).1.cls (MC 0).2.1 (MC 0).2.2.1 en := ⟨by decide +kernel, rfl, rfl, fun en hen => chk0_ok kc0_ok (List.all_eq_true.mp ck0_0 en hen)⟩
theorem kc1_0 : Lnk0OK MC RX3 (4, 3, 0, 0, 0, 0) := tb_1 27 rfl rfl
theorem kc1_1 : Lnk0OK MC RX3 (1, 9, 3, 1, 2, 0) := ⟨RX3, TX3, 8, tyX3, rfl, rfl, by decide +kernel, by decide +kernel, uw3, tb_1 33 rfl rfl, tyX3_ok, nmX3, rfl, Or.inr (Or.inr ⟨rfl, Or.inr ⟨_, rfl⟩⟩)⟩
theorem kc1_2 : Lnk0OK MC RX3 (3, 15, 0, 0, 0, 0) := tb_1 28 rfl rfl
theorem kc1_3 : Lnk0OK MC RX3 (1, 17, 3, 2, 2, 0) := ⟨RX3, TX3, 8, tyX3, rfl, rfl, by decide +kernel, by decide +kernel, uw3, tb_1 37 rfl rfl, tyX3_ok, nmX3, rfl, Or.inr (Or.inr ⟨rfl, Or.inr ⟨_, rfl⟩⟩)⟩
theorem kc1_4 : Lnk0OK MC RX3 (1, 20, 3, 3, 2, 0) := ⟨RX3, TX3, 8, tyX3, rfl, rfl, by decide +kernel, by decide +kernel, uw3, tb_1 41 rfl rfl, tyX3_ok, nmX3, rfl, Or.inr (Or.inr ⟨rfl, Or.inr ⟨_, rfl⟩⟩)⟩
theorem kc1_5 : Lnk0OK MC RX3 (1, 23, 3, 4, 2, 0) := ⟨RX3, TX3, 8, tyX3, rfl, rfl, by decide +kernel, by decide +kernel, uw3, tb_1 44 rfl rfl, tyX3_ok, nmX3, rfl, Or.inr (Or.inr ⟨rfl, Or.inr ⟨_, rfl⟩⟩)⟩
theorem kc1_6 : Lnk0OK MC RX3 (1, 26, 3, 5, 2, 0) := ⟨RX3, TX3, 8, tyX3, rfl, rfl, by decide +kernel, by decide +kernel, uw3, tb_1 47 rfl rfl, tyX3_ok, nmX3, rfl, Or.inr (Or.inr ⟨rfl, Or.inr ⟨_, rfl⟩⟩)⟩
theorem kc1_7 : Lnk0OK MC RX3 (1, 29, 3, 7, 0, 0) := ⟨RX3, TX3, 8, tyX3, rfl, rfl, by decide +kernel, by decide +kernel, uw3, tb_1 51 rfl rfl, tyX3_ok, nmX3, rfl, Or.inl ⟨rfl, rfl⟩⟩
def kc1 : List Lnk := [(4, 3, 0, 0, 0, 0), (1, 9, 3, 1, 2, 0), (3, 15, 0, 0, 0, 0), (1, 17, 3, 2, 2, 0), (1, 20, 3, 3, 2, 0), (1, 23, 3, 4, 2, 0), (1, 26, 3, 5, 2, 0), (1, 29, 3, 7, 0, 0)]
theorem kc1_ok : ∀ q ∈ kc1, Lnk0OK MC RX3 q := List.forall_mem_cons.mpr ⟨kc1_0, List.forall_mem_cons.mpr ⟨kc1_1, List.forall_mem_cons.mpr ⟨kc1_2, List.forall_mem_cons.mpr ⟨kc1_3, List.forall_mem_cons.mpr ⟨kc1_4, List.forall_mem_cons.mpr ⟨kc1_5, List.forall_mem_cons.mpr ⟨kc1_6, List.forall_mem_cons.mpr ⟨kc1_7, fun _ h => absurd h List.not_mem_nil⟩⟩⟩⟩⟩⟩⟩⟩
def cc1 : List Ent := [(0, .aload_n 0, 1, 0, 0, 0, []), (1, .invokespecial 3, 3, 0, 0, 5, []), (4, .aload_n 0, 1, 0, 0, 0, []), (5, .bipush 8, 2, 0, 0, 0, []), (7, .newarray .int, 2, 0, 0, 0, []), (9, .putfield 9, 3, 3, 1, 2, []), (12, .aload_n 0, 1, 0, 0, 0, []), (13, .bipush 8, 2, 0, 0, 0, []), (15, .iconst 5, 1, 0, 0, 0, []), (16, .multianewarray 15 2, 4, 0, 0, 0, []), (20, .putfield 17, 3, 3, 2, 2, []), (23, .aload_n 0, 1, 0, 0, 0, []), (24, .bipush 8, 2, 0, 0, 0, []), (26, .newarray .int, 2, 0, 0, 0, []), (28, .putfield 20, 3, 3, 3, 2, []), (31, .aload_n 0, 1, 0, 0, 0, []), (32, .bipush 8, 2, 0, 0, 0, []), (34, .newarray .int, 2, 0, 0, 0, []), (36, .putfield 23, 3, 3, 4, 2, []), (39, .aload_n 0, 1, 0, 0, 0, []), (40, .bipush 72, 2, 0, 0, 0, []), (42, .newarray .int, 2, 0, 0, 0, []), (44, .putfield 26, 3, 3, 5, 2, []), (47, .aload_n 0, 1, 0, 0, 0, []), (48, .bipush (-9), 2, 0, 0, 0, []), (50, .putfield 29, 3, 3, 7, 0, []), (53, .return_, 1, 0, 0, 0, [])]
theorem ck0_1 : cc1.all (chk0 mc1.2.1 mc1.2.2.1 kc1) = true := by decide +kernel
theorem cm1 : plainName (MC 1).1.cls = true ∧ (MC 1).2.2.2 = none ∧ (MC 1).1.name = "<init>" ∧ ∀ en ∈ cc1, Ent0OK MC (MC 1).1.cls (MC 1).2.1 (MC 1).2.2.1 en := ⟨by decide +kernel, rfl, rfl, fun en hen => chk0_ok kc1_ok (List.all_eq_true.mp ck0_1 en hen)⟩
theorem kc2_0 : Lnk0OK MC RX2 (4, 3, 0, 0, 0, 0) := tb_1 76 rfl rfl
theorem kc2_1 : Lnk0OK MC RX2 (3, 9, 0, 0, 0, 0) := tb_1 77 rfl rfl
theorem kc2_2 : Lnk0OK MC RX2 (1, 11, 2, 0, 2, 0) := ⟨RX2, TX2, 3, tyX2, rfl, rfl, by decide +kernel, by decide +kernel, uw2, tb_1 78 rfl rfl, tyX2_ok, nmX2, rfl, Or.inr (Or.inr ⟨rfl, Or.inr ⟨_, rfl⟩⟩)⟩
def kc2 : List Lnk := [(4, 3, 0, 0, 0, 0), (3, 9, 0, 0, 0, 0), (1, 11, 2, 0, 2, 0)]
theorem kc2_ok : ∀ q ∈ kc2, Lnk0OK MC RX2 q := List.forall_mem_cons.mpr ⟨kc2_0, List.forall_mem_cons.mpr ⟨kc2_1, List.forall_mem_cons.mpr ⟨kc2_2, fun _ h => absurd h List.not_mem_nil⟩⟩⟩
def cc2 : List Ent := [(0, .aload_n 0, 1, 0, 0, 0, []), (1, .invokespecial 3, 3, 0, 0, 5, []), (4, .aload_n 0, 1, 0, 0, 0, []), (5, .bipush 20, 2, 0, 0, 0, []), (7, .iconst 4, 1, 0, 0, 0, []), (8, .multianewarray 9 2, 4, 0, 0, 0, []), (12, .putfield 11, 3, 2, 0, 2, []), (15, .return_, 1, 0, 0, 0, [])]
theorem ck0_2 : cc2.all (chk0 mc2.2.1 mc2.2.2.1 kc2) = true := by decide +kernel
theorem cm2 : plainName (MC 2).1.cls = true ∧ (MC 2).2.2.2 = none ∧ (MC 2).1.name = "<init>" ∧ ∀ en ∈ cc2, Ent0OK MC (MC 2).1.cls (MC 2).2.1 (MC 2).2.2.1 en := ⟨by decide +kernel, rfl, rfl, fun en hen => chk0_ok kc2_ok (List.all_eq_true.mp ck0_2 en hen)⟩
theorem kc3_0 : Lnk0OK MC RX6 (4, 3, 0, 0, 0, 0) := tb_1 94 rfl rfl
theorem kc3_1 : Lnk0OK MC RX6 (3, 9, 0, 0, 0, 0) := tb_1 95 rfl rfl
theorem kc3_2 : Lnk0OK MC RX6 (1, 11, 6, 2, 2, 0) := ⟨RX6, TX6, 5, tyX6, rfl, rfl, by decide +kernel, by decide +kernel, uw6, tb_1 136 rfl rfl, tyX6_ok, nmX6, rfl, Or.inr (Or.inr ⟨rfl, Or.inr ⟨_, rfl⟩⟩)⟩
theorem kc3_3 : Lnk0OK MC RX6 (1, 16, 6, 3, 2, 0) := ⟨RX6, TX6, 5, tyX6, rfl, rfl, by decide +kernel, by decide +kernel, uw6, tb_1 140 rfl rfl, tyX6_ok, nmX6, rfl, Or.inr (Or.inr ⟨rfl, Or.inr ⟨_, rfl⟩⟩)⟩
theorem kc3_4 : Lnk0OK MC RX6 (2, 20, 1, 0, 0, 0) := ⟨RX1, TX1, tyX1, rfl, uw1, tyX1_ok, by decide +kernel, tb_1 96 rfl rfl, tb_1 97 rfl rfl, tb_1 5 rfl rfl⟩
theorem kc3_5 : Lnk0OK MC RX6 (5, 22, 4, 0, 0, 0) := ⟨⟨by decide +kernel, rfl, rfl⟩, tb_1 100 rfl rfl, tb_1 5 rfl rfl, ⟨by decide +kernel, by decide +kernel⟩, by decide +kernel, Or.inr ⟨"PureGroups", lw_1 98 rfl⟩, tb_1 99 rfl rfl⟩
theorem kc3_6 : Lnk0OK MC RX6 (1, 23, 6, 4, 2, 0) := ⟨RX6, TX6, 5, tyX6, rfl, rfl, by decide +kernel, by decide +kernel, uw6, tb_1 143 rfl rfl, tyX6_ok, nmX6, rfl, Or.inr (Or.inr ⟨rfl, Or.inl ⟨_, rfl⟩⟩)⟩
def kc3 : List Lnk := [(4, 3, 0, 0, 0, 0), (3, 9, 0, 0, 0, 0), (1, 11, 6, 2, 2, 0), (1, 16, 6, 3, 2, 0), (2, 20, 1, 0, 0, 0), (5, 22, 4, 0, 0, 0), (1, 23, 6, 4, 2, 0)]
theorem kc3_ok : ∀ q ∈ kc3, Lnk0OK MC RX6 q := List.forall_mem_cons.mpr ⟨kc3_0, List.forall_mem_cons.mpr ⟨kc3_1, List.forall_mem_cons.mpr ⟨kc3_2, List.forall_mem_cons.mpr ⟨kc3_3, List.forall_mem_cons.mpr ⟨kc3_4, List.forall_mem_cons.mpr ⟨kc3_5, List.forall_mem_cons.mpr ⟨kc3_6, fun _ h => absurd h List.not_mem_nil⟩⟩⟩⟩⟩⟩⟩
def cc3 : List Ent := [(0, .aload_n 0, 1, 0, 0, 0, []), (1, .invokespecial 3, 3, 0, 0, 5, []), (4, .aload_n 0, 1, 0, 0, 0, []), (5, .bipush 8, 2, 0, 0, 0, []), (7, .iconst 5, 1, 0, 0, 0, []), (8, .multianewarray 9 2, 4, 0, 0, 0, []), (12, .putfield 11, 3, 6, 2, 2, []), (15, .aload_n 0, 1, 0, 0, 0, []), (16, .bipush 8, 2, 0, 0, 0, []), (18, .newarray .long, 2, 0, 0, 1, []), (20, .putfield 16, 3, 6, 3, 2, []), (23, .aload_n 0, 1, 0, 0, 0, []), (24, .new 20, 3, 1, 0, 0, []), (27, .dup, 1, 0, 0, 0, []), (28, .invokespecial 22, 3, 4, 0, 6, []), (31, .putfield 23, 3, 6, 4, 2, []), (34, .return_, 1, 0, 0, 0, [])]
theorem ck0_3 : cc3.all (chk0 mc3.2.1 mc3.2.2.1 kc3) = true := by decide +kernel
theorem cm3 : plainName (MC 3).1.cls = true ∧ (MC 3).2.2.2 = none ∧ (MC 3).1.name = "<init>" ∧ ∀ en ∈ cc3, Ent0OK MC (MC 3).1.cls (MC 3).2.1 (MC 3).2.2.1 en := ⟨by decide +kernel, rfl, rfl, fun en hen => chk0_ok kc3_ok (List.all_eq_true.mp ck0_3 en hen)⟩
theorem kc4_0 : Lnk0OK MC RX1 (4, 3, 0, 0, 0, 0) := tb_1 101 rfl rfl
theorem kc4_1 : Lnk0OK MC RX1 (3, 9, 0, 0, 1, 0) := tb_1 102 rfl rfl
theorem kc4_2 : Lnk0OK MC RX1 (1, 11, 1, 0, 2, 0) := ⟨RX1, TX1, 6, tyX1, rfl, rfl, by decide +kernel, by decide +kernel, uw1, tb_1 104 rfl rfl, tyX1_ok, nmX1, rfl, Or.inr (Or.inr ⟨rfl, Or.inr ⟨_, rfl⟩⟩)⟩
theorem kc4_3 : Lnk0OK MC RX1 (1, 16, 1, 1, 2, 0) := ⟨RX1, TX1, 6, tyX1, rfl, rfl, by decide +kernel, by decide +kernel, uw1, tb_1 105 rfl rfl, tyX1_ok, nmX1, rfl, Or.inr (Or.inr ⟨rfl, Or.inr ⟨_, rfl⟩⟩)⟩
theorem kc4_4 : Lnk0OK MC RX1 (1, 20, 1, 5, 1, 0) := ⟨RX1, TX1, 6, tyX1, rfl, rfl, by decide +kernel, by decide +kernel, uw1, tb_1 113 rfl rfl, tyX1_ok, nmX1, rfl, Or.inr (Or.inl ⟨rfl, rfl⟩)⟩
def kc4 : List Lnk := [(4, 3, 0, 0, 0, 0), (3, 9, 0, 0, 1, 0), (1, 11, 1, 0, 2, 0), (1, 16, 1, 1, 2, 0), (1, 20, 1, 5, 1, 0)]
theorem kc4_ok : ∀ q ∈ kc4, Lnk0OK MC RX1 q := List.forall_mem_cons.mpr ⟨kc4_0, List.forall_mem_cons.mpr ⟨kc4_1, List.forall_mem_cons.mpr ⟨kc4_2, List.forall_mem_cons.mpr ⟨kc4_3, List.forall_mem_cons.mpr ⟨kc4_4, fun _ h => absurd h List.not_mem_nil⟩⟩⟩⟩⟩
def cc4 : List Ent := [(0, .aload_n 0, 1, 0, 0, 0, []), (1, .invokespecial 3, 3, 0, 0, 5, []), (4, .aload_n 0, 1, 0, 0, 0, []), (5, .iconst 5, 1, 0, 0, 0, []), (6, .bipush 8, 2, 0, 0, 0, []), (8, .multianewarray 9 2, 4, 0, 0, 1, []), (12, .putfield 11, 3, 1, 0, 2, []), (15, .aload_n 0, 1, 0, 0, 0, []), (16, .bipush 8, 2, 0, 0, 0, []), (18, .newarray .int, 2, 0, 0, 0, []), (20, .putfield 16, 3, 1, 1, 2, []), (23, .aload_n 0, 1, 0, 0, 0, []), (24, .lconst 1, 1, 0, 0, 0, []), (25, .putfield 20, 3, 1, 5, 1, []), (28, .return_, 1, 0, 0, 0, [])]
theorem ck0_4 : cc4.all (chk0 mc4.2.1 mc4.2.2.1 kc4) = true := by decide +kernel
theorem cm4 : plainName (MC 4).1.cls = true ∧ (MC 4).2.2.2 = none ∧ (MC 4).1.name = "<init>" ∧ ∀ en ∈ cc4, Ent0OK MC (MC 4).1.cls (MC 4).2.1 (MC 4).2.2.1 en := ⟨by decide +kernel, rfl, rfl, fun en hen => chk0_ok kc4_ok (List.all_eq_true.mp ck0_4 en hen)⟩
theorem kc5_0 : Lnk0OK MC RX0 (4, 3, 0, 0, 0, 0) := tb_1 162 rfl rfl
theorem kc5_1 : Lnk0OK MC RX0 (2, 9, 1, 0, 0, 0) := ⟨RX1, TX1, tyX1, rfl, uw1, tyX1_ok, by decide +kernel, tb_1 163 rfl rfl, tb_1 97 rfl rfl, tb_1 5 rfl rfl⟩
theorem kc5_2 : Lnk0OK MC RX0 (5, 11, 4, 0, 0, 0) := ⟨⟨by decide +kernel, rfl, rfl⟩, tb_1 100 rfl rfl, tb_1 5 rfl rfl, ⟨by decide +kernel, by decide +kernel⟩, by decide +kernel, Or.inr ⟨"PureGroups", lw_1 164 rfl⟩, tb_1 99 rfl rfl⟩
theorem kc5_3 : Lnk0OK MC RX0 (1, 12, 0, 1, 2, 0) := ⟨RX0, TX0, 9, tyX0, rfl, rfl, by decide +kernel, by decide +kernel, uw0, tb_1 166 rfl rfl, tyX0_ok, nmX0, rfl, Or.inr (Or.inr ⟨rfl, Or.inl ⟨_, rfl⟩⟩)⟩
theorem kc5_4 : Lnk0OK MC RX0 (1, 18, 0, 2, 2, 0) := ⟨RX0, TX0, 9, tyX0, rfl, rfl, by decide +kernel, by decide +kernel, uw0, tb_1 168 rfl rfl, tyX0_ok, nmX0, rfl, Or.inr (Or.inr ⟨rfl, Or.inr ⟨_, rfl⟩⟩)⟩
theorem kc5_5 : Lnk0OK MC RX0 (1, 22, 0, 3, 0, 0) := ⟨RX0, TX0, 9, tyX0, rfl, rfl, by decide +kernel, by decide +kernel, uw0, tb_1 169 rfl rfl, tyX0_ok, nmX0, rfl, Or.inl ⟨rfl, rfl⟩⟩
theorem kc5_6 : Lnk0OK MC RX0 (1, 26, 0, 0, 2, 0) := ⟨RX0, TX0, 9, tyX0, rfl, rfl, by decide +kernel, by decide +kernel, uw0, tb_1 165 rfl rfl, tyX0_ok, nmX0, rfl, Or.inr (Or.inr ⟨rfl, Or.inl ⟨_, rfl⟩⟩)⟩
def kc5 : List Lnk := [(4, 3, 0, 0, 0, 0), (2, 9, 1, 0, 0, 0), (5, 11, 4, 0, 0, 0), (1, 12, 0, 1, 2, 0), (1, 18, 0, 2, 2, 0), (1, 22, 0, 3, 0, 0), (1, 26, 0, 0, 2, 0)]
theorem kc5_ok : ∀ q ∈ kc5, Lnk0OK MC RX0 q := List.forall_mem_cons.mpr ⟨kc5_0, List.forall_mem_cons.mpr ⟨kc5_1, List.forall_mem_cons.mpr ⟨kc5_2, List.forall_mem_cons.mpr ⟨kc5_3, List.forall_mem_cons.mpr ⟨kc5_4, List.forall_mem_cons.mpr ⟨kc5_5, List.forall_mem_cons.mpr ⟨kc5_6, fun _ h => absurd h List.not_mem_nil⟩⟩⟩⟩⟩⟩⟩
def cc5 : List Ent := [(0, .aload_n 0, 1, 0, 0, 0, []), (1, .invokespecial 3, 3, 0, 0, 5, []), (4, .aload_n 0, 1, 0, 0, 0, []), (5, .new 9, 3, 1, 0, 0, []), (8, .dup, 1, 0, 0, 0, []), (9, .invokespecial 11, 3, 4, 0, 6, []), (12, .putfield 12, 3, 0, 1, 2, []), (15, .aload_n 0, 1, 0, 0, 0, []), (16, .bipush 8, 2, 0, 0, 0, []), (18, .newarray .int, 2, 0, 0, 0, []), (20, .putfield 18, 3, 0, 2, 2, []), (23, .aload_n 0, 1, 0, 0, 0, []), (24, .iconst (-1), 1, 0, 0, 0, []), (25, .putfield 22, 3, 0, 3, 0, []), (28, .aload_n 0, 1, 0, 0, 0, []), (29, .aload_n 1, 1, 0, 0, 0, []), (30, .putfield 26, 3, 0, 0, 2, []), (33, .return_, 1, 0, 0, 0, [])]
theorem ck0_5 : cc5.all (chk0 mc5.2.1 mc5.2.2.1 kc5) = true := by decide +kernel
theorem cm5 : plainName (MC 5).1.cls = true ∧ (MC 5).2.2.2 = none ∧ (MC 5).1.name = "<init>" ∧ ∀ en ∈ cc5, Ent0OK MC (MC 5).1.cls (MC 5).2.1 (MC 5).2.2.1 en := ⟨by decide +kernel, rfl, rfl, fun en hen => chk0_ok kc5_ok (List.all_eq_true.mp ck0_5 en hen)⟩
theorem kc6_0 : Lnk0OK MC RX5 (4, 3, 0, 0, 0, 0) := tb_1 203 rfl rfl
theorem kc6_1 : Lnk0OK MC RX5 (1, 9, 5, 1, 2, 0) := ⟨RX5, TX5, 7, tyX5, rfl, rfl, by decide +kernel, by decide +kernel, uw5, tb_1 205 rfl rfl, tyX5_ok, nmX5, rfl, Or.inr (Or.inr ⟨rfl, Or.inr ⟨_, rfl⟩⟩)⟩
theorem kc6_2 : Lnk0OK MC RX5 (1, 15, 5, 3, 0, 0) := ⟨RX5, TX5, 7, tyX5, rfl, rfl, by decide +kernel, by decide +kernel, uw5, tb_1 209 rfl rfl, tyX5_ok, nmX5, rfl, Or.inl ⟨rfl, rfl⟩⟩
theorem kc6_3 : Lnk0OK MC RX5 (1, 19, 5, 4, 2, 0) := ⟨RX5, TX5, 7, tyX5, rfl, rfl, by decide +kernel, by decide +kernel, uw5, tb_1 210 rfl rfl, tyX5_ok, nmX5, rfl, Or.inr (Or.inr ⟨rfl, Or.inr ⟨_, rfl⟩⟩)⟩
theorem kc6_4 : Lnk0OK MC RX5 (1, 23, 5, 5, 2, 0) := ⟨RX5, TX5, 7, tyX5, rfl, rfl, by decide +kernel, by decide +kernel, uw5, tb_1 211 rfl rfl, tyX5_ok, nmX5, rfl, Or.inr (Or.inr ⟨rfl, Or.inr ⟨_, rfl⟩⟩)⟩
theorem kc6_5 : Lnk0OK MC RX5 (1, 26, 5, 6, 2, 0) := ⟨RX5, TX5, 7, tyX5, rfl, rfl, by decide +kernel, by decide +kernel, uw5, tb_1 212 rfl rfl, tyX5_ok, nmX5, rfl, Or.inr (Or.inr ⟨rfl, Or.inr ⟨_, rfl⟩⟩)⟩
theorem kc6_6 : Lnk0OK MC RX5 (1, 29, 5, 0, 2, 0) := ⟨RX5, TX5, 7, tyX5, rfl, rfl, by decide +kernel, by decide +kernel, uw5, tb_1 204 rfl rfl, tyX5_ok, nmX5, rfl, Or.inr (Or.inr ⟨rfl, Or.inl ⟨_, rfl⟩⟩)⟩
def kc6 : List Lnk := [(4, 3, 0, 0, 0, 0), (1, 9, 5, 1, 2, 0), (1, 15, 5, 3, 0, 0), (1, 19, 5, 4, 2, 0), (1, 23, 5, 5, 2, 0), (1, 26, 5, 6, 2, 0), (1, 29, 5, 0, 2, 0)]
theorem kc6_ok : ∀ q ∈ kc6, Lnk0OK MC RX5 q := List.forall_mem_cons.mpr ⟨kc6_0, List.forall_mem_cons.mpr ⟨kc6_1, List.forall_mem_cons.mpr ⟨kc6_2, List.forall_mem_cons.mpr ⟨kc6_3, List.forall_mem_cons.mpr ⟨kc6_4, List.forall_mem_cons.mpr ⟨kc6_5, List.forall_mem_cons.mpr ⟨kc6_6, fun _ h => absurd h List.not_mem_nil⟩⟩⟩⟩⟩⟩⟩
def cc6 : List Ent := [(0, .aload_n 0, 1, 0, 0, 0, []), (1, .invokespecial 3, 3, 0, 0, 5, []), (4, .aload_n 0, 1, 0, 0, 0, []), (5, .bipush 8, 2, 0, 0, 0, []), (7, .newarray .int, 2, 0, 0, 0, []), (9, .putfield 9, 3, 5, 1, 2, []), (12, .aload_n 0, 1, 0, 0, 0, []), (13, .iconst (-1), 1, 0, 0, 0, []), (14, .putfield 15, 3, 5, 3, 0, []), (17, .aload_n 0, 1, 0, 0, 0, []), (18, .bipush 16, 2, 0, 0, 0, []), (20, .newarray .long, 2, 0, 0, 1, []), (22, .putfield 19, 3, 5, 4, 2, []), (25, .aload_n 0, 1, 0, 0, 0, []), (26, .iconst 3, 1, 0, 0, 0, []), (27, .newarray .int, 2, 0, 0, 0, []), (29, .putfield 23, 3, 5, 5, 2, []), (32, .aload_n 0, 1, 0, 0, 0, []), (33, .sipush 1024, 3, 0, 0, 0, []), (36, .newarray .long, 2, 0, 0, 1, []), (38, .putfield 26, 3, 5, 6, 2, []), (41, .aload_n 0, 1, 0, 0, 0, []), (42, .aload_n 1, 1, 0, 0, 0, []), (43, .putfield 29, 3, 5, 0, 2, []), (46, .return_, 1, 0, 0, 0, [])]
theorem ck0_6 : cc6.all (chk0 mc6.2.1 mc6.2.2.1 kc6) = true := by decide +kernel
theorem cm6 : plainName (MC 6).1.cls = true ∧ (MC 6).2.2.2 = none ∧ (MC 6).1.name = "<init>" ∧ ∀ en ∈ cc6, Ent0OK MC (MC 6).1.cls (MC 6).2.1 (MC 6).2.2.1 en := ⟨by decide +kernel, rfl, rfl, fun en hen => chk0_ok kc6_ok (List.all_eq_true.mp ck0_6 en hen)⟩
theorem kc7_0 : Lnk0OK MC RX4 (4, 3, 0, 0, 0, 0) := tb_1 233 rfl rfl
theorem kc7_1 : Lnk0OK MC RX4 (1, 9, 4, 1, 2, 0) := ⟨RX4, TX4, 13, tyX4, rfl, rfl, by decide +kernel, by decide +kernel, uw4, tb_1 236 rfl rfl, tyX4_ok, nmX4, rfl, Or.inr (Or.inr ⟨rfl, Or.inr ⟨_, rfl⟩⟩)⟩
theorem kc7_2 : Lnk0OK MC RX4 (1, 15, 4, 4, 0, 0) := ⟨RX4, TX4, 13, tyX4, rfl, rfl, by decide +kernel, by decide +kernel, uw4, tb_1 239 rfl rfl, tyX4_ok, nmX4, rfl, Or.inl ⟨rfl, rfl⟩⟩
theorem kc7_3 : Lnk0OK MC RX4 (1, 19, 4, 7, 2, 0) := ⟨RX4, TX4, 13, tyX4, rfl, rfl, by decide +kernel, by decide +kernel, uw4, tb_2 5 rfl rfl, tyX4_ok, nmX4, rfl, Or.inr (Or.inr ⟨rfl, Or.inr ⟨_, rfl⟩⟩)⟩
theorem kc7_4 : Lnk0OK MC RX4 (3, 22, 0, 0, 0, 0) := tb_1 234 rfl rfl
theorem kc7_5 : Lnk0OK MC RX4 (1, 24, 4, 8, 2, 0) := ⟨RX4, TX4, 13, tyX4, rfl, rfl, by decide +kernel, by decide +kernel, uw4, tb_2 6 rfl rfl, tyX4_ok, nmX4, rfl, Or.inr (Or.inr ⟨rfl, Or.inr ⟨_, rfl⟩⟩)⟩
theorem kc7_6 : Lnk0OK MC RX4 (1, 27, 4, 9, 2, 0) := ⟨RX4, TX4, 13, tyX4, rfl, rfl, by decide +kernel, by decide +kernel, uw4, tb_2 7 rfl rfl, tyX4_ok, nmX4, rfl, Or.inr (Or.inr ⟨rfl, Or.inr ⟨_, rfl⟩⟩)⟩
theorem kc7_7 : Lnk0OK MC RX4 (1, 30, 4, 10, 2, 0) := ⟨RX4, TX4, 13, tyX4, rfl, rfl, by decide +kernel, by decide +kernel, uw4, tb_2 8 rfl rfl, tyX4_ok, nmX4, rfl, Or.inr (Or.inr ⟨rfl, Or.inr ⟨_, rfl⟩⟩)⟩
theorem kc7_8 : Lnk0OK MC RX4 (1, 33, 4, 11, 2, 0) := ⟨RX4, TX4, 13, tyX4, rfl, rfl, by decide +kernel, by decide +kernel, uw4, tb_2 9 rfl rfl, tyX4_ok, nmX4, rfl, Or.inr (Or.inr ⟨rfl, Or.inr ⟨_, rfl⟩⟩)⟩
theorem kc7_9 : Lnk0OK MC RX4 (1, 36, 4, 12, 2, 0) := ⟨RX4, TX4, 13, tyX4, rfl, rfl, by decide +kernel, by decide +kernel, uw4, tb_2 11 rfl rfl, tyX4_ok, nmX4, rfl, Or.inr (Or.inr ⟨rfl, Or.inr ⟨_, rfl⟩⟩)⟩
theorem kc7_10 : Lnk0OK MC RX4 (1, 39, 4, 0, 2, 0) := ⟨RX4, TX4, 13, tyX4, rfl, rfl, by decide +kernel, by decide +kernel, uw4, tb_1 235 rfl rfl, tyX4_ok, nmX4, rfl, Or.inr (Or.inr ⟨rfl, Or.inl ⟨_, rfl⟩⟩)⟩
def kc7 : List Lnk := [(4, 3, 0, 0, 0, 0), (1, 9, 4, 1, 2, 0), (1, 15, 4, 4, 0, 0), (1, 19, 4, 7, 2, 0), (3, 22, 0, 0, 0, 0), (1, 24, 4, 8, 2, 0), (1, 27, 4, 9, 2, 0), (1, 30, 4, 10, 2, 0), (1, 33, 4, 11, 2, 0), (1, 36, 4, 12, 2, 0), (1, 39, 4, 0, 2, 0)]
theorem kc7_ok : ∀ q ∈ kc7, Lnk0OK MC RX4 q := List.forall_mem_cons.mpr ⟨kc7_0, List.forall_mem_cons.mpr ⟨kc7_1, List.forall_mem_cons.mpr ⟨kc7_2, List.forall_mem_cons.mpr ⟨kc7_3, List.forall_mem_cons.mpr ⟨kc7_4, List.forall_mem_cons.mpr ⟨kc7_5, List.forall_mem_cons.mpr ⟨kc7_6, List.forall_mem_cons.mpr ⟨kc7_7, List.forall_mem_cons.mpr ⟨kc7_8, List.forall_mem_cons.mpr ⟨kc7_9, List.forall_mem_cons.mpr ⟨kc7_10, fun _ h => absurd h List.not_mem_nil⟩⟩⟩⟩⟩⟩⟩⟩⟩⟩⟩
def cc7 : List Ent := [(0, .aload_n 0, 1, 0, 0, 0, []), (1, .invokespecial 3, 3, 0, 0, 5, []), (4, .aload_n 0, 1, 0, 0, 0, []), (5, .bipush 72, 2, 0, 0, 0, []), (7, .newarray .int, 2, 0, 0, 0, []), (9, .putfield 9, 3, 4, 1, 2, []), (12, .aload_n 0, 1, 0, 0, 0, []), (13, .bipush (-9), 2, 0, 0, 0, []), (15, .putfield 15, 3, 4, 4, 0, []), (18, .aload_n 0, 1, 0, 0, 0, []), (19, .bipush 72, 2, 0, 0, 0, []), (21, .newarray .int, 2, 0, 0, 0, []), (23, .putfield 19, 3, 4, 7, 2, []), (26, .aload_n 0, 1, 0, 0, 0, []), (27, .bipush 7, 2, 0, 0, 0, []), (29, .iconst 5, 1, 0, 0, 0, []), (30, .multianewarray 22 2, 4, 0, 0, 0, []), (34, .putfield 24, 3, 4, 8, 2, []), (37, .aload_n 0, 1, 0, 0, 0, []), (38, .bipush 7, 2, 0, 0, 0, []), (40, .iconst 5, 1, 0, 0, 0, []), (41, .multianewarray 22 2, 4, 0, 0, 0, []), (45, .putfield 27, 3, 4, 9, 2, []), (48, .aload_n 0, 1, 0, 0, 0, []), (49, .iconst 5, 1, 0, 0, 0, []), (50, .newarray .int, 2, 0, 0, 0, []), (52, .putfield 30, 3, 4, 10, 2, []), (55, .aload_n 0, 1, 0, 0, 0, []), (56, .iconst 5, 1, 0, 0, 0, []), (57, .newarray .int, 2, 0, 0, 0, []), (59, .putfield 33, 3, 4, 11, 2, []), (62, .aload_n 0, 1, 0, 0, 0, []), (63, .iconst 5, 1, 0, 0, 0, []), (64, .newarray .int, 2, 0, 0, 0, []), (66, .putfield 36, 3, 4, 12, 2, []), (69, .aload_n 0, 1, 0, 0, 0, []), (70, .aload_n 1, 1, 0, 0, 0, []), (71, .putfield 39, 3, 4, 0, 2, []), (74, .return_, 1, 0, 0, 0, [])]
theorem ck0_7 : cc7.all (chk0 mc7.2.1 mc7.2.2.1 kc7) = true := by decide +kernel
theorem cm7 : plainName (MC 7).1.cls = true ∧ (MC 7).2.2.2 = none ∧ (MC 7).1.name = "<init>" ∧ ∀ en ∈ cc7, Ent0OK MC (MC 7).1.cls (MC 7).2.1 (MC 7).2.2.1 en := ⟨by decide +kernel, rfl, rfl, fun en hen => chk0_ok kc7_ok (List.all_eq_true.mp ck0_7 en hen)⟩
theorem kc8_0 : Lnk0OK MC RX8 (4, 3, 0, 0, 0, 0) := tb_4 138 rfl rfl
theorem kc8_1 : Lnk0OK MC RX8 (1, 9, 8, 0, 2, 0) := ⟨RX8, TX8, 27, tyX8, rfl, rfl, by decide +kernel, by decide +kernel, uw8, tb_4 139 rfl rfl, tyX8_ok, nmX8, rfl, Or.inr (Or.inr ⟨rfl, Or.inr ⟨_, rfl⟩⟩)⟩
theorem kc8_2 : Lnk0OK MC RX8 (1, 13, 8, 1, 2, 0) := ⟨RX8, TX8, 27, tyX8, rfl, rfl, by decide +kernel, by decide +kernel, uw8, tb_4 140 rfl rfl, tyX8_ok, nmX8, rfl, Or.inr (Or.inr ⟨rfl, Or.inr ⟨_, rfl⟩⟩)⟩
theorem kc8_3 : Lnk0OK MC RX8 (1, 16, 8, 3, 2, 0) := ⟨RX8, TX8, 27, tyX8, rfl, rfl, by decide +kernel, by decide +kernel, uw8, tb_4 142 rfl rfl, tyX8_ok, nmX8, rfl, Or.inr (Or.inr ⟨rfl, Or.inr ⟨_, rfl⟩⟩)⟩
theorem kc8_4 : Lnk0OK MC RX8 (1, 19, 8, 4, 2, 0) := ⟨RX8, TX8, 27, tyX8, rfl, rfl, by decide +kernel, by decide +kernel, uw8, tb_4 143 rfl rfl, tyX8_ok, nmX8, rfl, Or.inr (Or.inr ⟨rfl, Or.inr ⟨_, rfl⟩⟩)⟩
theorem kc8_5 : Lnk0OK MC RX8 (1, 22, 8, 6, 2, 0) := ⟨RX8, TX8, 27, tyX8, rfl, rfl, by decide +kernel, by decide +kernel, uw8, tb_4 145 rfl rfl, tyX8_ok, nmX8, rfl, Or.inr (Or.inr ⟨rfl, Or.inr ⟨_, rfl⟩⟩)⟩
theorem kc8_6 : Lnk0OK MC RX8 (1, 25, 8, 8, 2, 0) := ⟨RX8, TX8, 27, tyX8, rfl, rfl, by decide +kernel, by decide +kernel, uw8, tb_4 147 rfl rfl, tyX8_ok, nmX8, rfl, Or.inr (Or.inr ⟨rfl, Or.inr ⟨_, rfl⟩⟩)⟩
theorem kc8_7 : Lnk0OK MC RX8 (1, 29, 8, 9, 2, 0) := ⟨RX8, TX8, 27, tyX8, rfl, rfl, by decide +kernel, by decide +kernel, uw8, tb_4 148 rfl rfl, tyX8_ok, nmX8, rfl, Or.inr (Or.inr ⟨rfl, Or.inr ⟨_, rfl⟩⟩)⟩
theorem kc8_8 : Lnk0OK MC RX8 (1, 32, 8, 10, 2, 0) := ⟨RX8, TX8, 27, tyX8, rfl, rfl, by decide +kernel, by decide +kernel, uw8, tb_4 149 rfl rfl, tyX8_ok, nmX8, rfl, Or.inr (Or.inr ⟨rfl, Or.inr ⟨_, rfl⟩⟩)⟩
theorem kc8_9 : Lnk0OK MC RX8 (1, 35, 8, 11, 2, 0) := ⟨RX8, TX8, 27, tyX8, rfl, rfl, by decide +kernel, by decide +kernel, uw8, tb_4 150 rfl rfl, tyX8_ok, nmX8, rfl, Or.inr (Or.inr ⟨rfl, Or.inr ⟨_, rfl⟩⟩)⟩
theorem kc8_10 : Lnk0OK MC RX8 (1, 38, 8, 12, 2, 0) := ⟨RX8, TX8, 27, tyX8, rfl, rfl, by decide +kernel, by decide +kernel, uw8, tb_4 151 rfl rfl, tyX8_ok, nmX8, rfl, Or.inr (Or.inr ⟨rfl, Or.inr ⟨_, rfl⟩⟩)⟩
theorem kc8_11 : Lnk0OK MC RX8 (1, 41, 8, 13, 2, 0) := ⟨RX8, TX8, 27, tyX8, rfl, rfl, by decide +kernel, by decide +kernel, uw8, tb_4 152 rfl rfl, tyX8_ok, nmX8, rfl, Or.inr (Or.inr ⟨rfl, Or.inr ⟨_, rfl⟩⟩)⟩
theorem kc8_12 : Lnk0OK MC RX8 (1, 44, 8, 14, 2, 0) := ⟨RX8, TX8, 27, tyX8, rfl, rfl, by decide +kernel, by decide +kernel, uw8, tb_4 153 rfl rfl, tyX8_ok, nmX8, rfl, Or.inr (Or.inr ⟨rfl, Or.inr ⟨_, rfl⟩⟩)⟩
theorem kc8_13 : Lnk0OK MC RX8 (1, 47, 8, 15, 2, 0) := ⟨RX8, TX8, 27, tyX8, rfl, rfl, by decide +kernel, by decide +kernel, uw8, tb_4 154 rfl rfl, tyX8_ok, nmX8, rfl, Or.inr (Or.inr ⟨rfl, Or.inr ⟨_, rfl⟩⟩)⟩
theorem kc8_14 : Lnk0OK MC RX8 (1, 50, 8, 16, 2, 0) := ⟨RX8, TX8, 27, tyX8, rfl, rfl, by decide +kernel, by decide +kernel, uw8, tb_4 155 rfl rfl, tyX8_ok, nmX8, rfl, Or.inr (Or.inr ⟨rfl, Or.inr ⟨_, rfl⟩⟩)⟩
theorem kc8_15 : Lnk0OK MC RX8 (1, 53, 8, 20, 2, 0) := ⟨RX8, TX8, 27, tyX8, rfl, rfl, by decide +kernel, by decide +kernel, uw8, tb_4 159 rfl rfl, tyX8_ok, nmX8, rfl, Or.inr (Or.inr ⟨rfl, Or.inr ⟨_, rfl⟩⟩)⟩
theorem kc8_16 : Lnk0OK MC RX8 (1, 56, 8, 21, 2, 0) := ⟨RX8, TX8, 27, tyX8, rfl, rfl, by decide +kernel, by decide +kernel, uw8, tb_4 160 rfl rfl, tyX8_ok, nmX8, rfl, Or.inr (Or.inr ⟨rfl, Or.inr ⟨_, rfl⟩⟩)⟩
theorem kc8_17 : Lnk0OK MC RX8 (1, 59, 8, 22, 2, 0) := ⟨RX8, TX8, 27, tyX8, rfl, rfl, by decide +kernel, by decide +kernel, uw8, tb_4 161 rfl rfl, tyX8_ok, nmX8, rfl, Or.inr (Or.inr ⟨rfl, Or.inr ⟨_, rfl⟩⟩)⟩
theorem kc8_18 : Lnk0OK MC RX8 (0, 35, 8, 11, 2, 0) := ⟨RX8, TX8, 27, tyX8, rfl, rfl, by decide +kernel, by decide +kernel, uw8, tb_4 150 rfl rfl, tyX8_ok, nmX8, fun h => by cases h⟩
def kc8 : List Lnk := [(4, 3, 0, 0, 0, 0), (1, 9, 8, 0, 2, 0), (1, 13, 8, 1, 2, 0), (1, 16, 8, 3, 2, 0), (1, 19, 8, 4, 2, 0), (1, 22, 8, 6, 2, 0), (1, 25, 8, 8, 2, 0), (1, 29, 8, 9, 2, 0), (1, 32, 8, 10, 2, 0), (1, 35, 8, 11, 2, 0), (1, 38, 8, 12, 2, 0), (1, 41, 8, 13, 2, 0), (1, 44, 8, 14, 2, 0), (1, 47, 8, 15, 2, 0), (1, 50, 8, 16, 2, 0), (1, 53, 8, 20, 2, 0), (1, 56, 8, 21, 2, 0), (1, 59, 8, 22, 2, 0), (0, 35, 8, 11, 2, 0)]
theorem kc8_ok : ∀ q ∈ kc8, Lnk0OK MC RX8 q := List.forall_mem_cons.mpr ⟨kc8_0, List.forall_mem_cons.mpr ⟨kc8_1, List.forall_mem_cons.mpr ⟨kc8_2, List.forall_mem_cons.mpr ⟨kc8_3, List.forall_mem_cons.mpr ⟨kc8_4, List.forall_mem_cons.mpr ⟨kc8_5, List.forall_mem_cons.mpr ⟨kc8_6, List.forall_mem_cons.mpr ⟨kc8_7, List.forall_mem_cons.mpr ⟨kc8_8, List.forall_mem_cons.mpr ⟨kc8_9, List.forall_mem_cons.mpr ⟨kc8_10, List.forall_mem_cons.mpr ⟨kc8_11, List.forall_mem_cons.mpr ⟨kc8_12, List.forall_mem_cons.mpr ⟨kc8_13, List.forall_mem_cons.mpr ⟨kc8_14, List.forall_mem_cons.mpr ⟨kc8_15, List.forall_mem_cons.mpr ⟨kc8_16, List.forall_mem_cons.mpr ⟨kc8_17, List.forall_mem_cons.mpr ⟨kc8_18, fun _ h => absurd h List.not_mem_nil⟩⟩⟩⟩⟩⟩⟩⟩⟩⟩⟩⟩⟩⟩⟩⟩⟩⟩⟩
def cc8 : List Ent := [(0, .aload_n 0, 1, 0, 0, 0, []), (1, .invokespecial 3, 3, 0, 0, 5, []), (4, .aload_n 0, 1, 0, 0, 0, []), (5, .sipush 139, 3, 0, 0, 0, []), (8, .newarray .int, 2, 0, 0, 0, []), (10, .putfield 9, 3, 8, 0, 2, []), (13, .aload_n 0, 1, 0, 0, 0, []), (14, .sipush 139, 3, 0, 0, 0, []), (17, .newarray .int, 2, 0, 0, 0, []), (19, .putfield 13, 3, 8, 1, 2, []), (22, .aload_n 0, 1, 0, 0, 0, []), (23, .bipush 7, 2, 0, 0, 0, []), (25, .newarray .int, 2, 0, 0, 0, []), (27, .putfield 16, 3, 8, 3, 2, []), (30, .aload_n 0, 1, 0, 0, 0, []), (31, .bipush 72, 2, 0, 0, 0, []), (33, .newarray .int, 2, 0, 0, 0, []), (35, .putfield 19, 3, 8, 4, 2, []), (38, .aload_n 0, 1, 0, 0, 0, []), (39, .bipush 100, 2, 0, 0, 0, []), (41, .newarray .int, 2, 0, 0, 0, []), (43, .putfield 22, 3, 8, 6, 2, []), (46, .aload_n 0, 1, 0, 0, 0, []), (47, .bipush 45, 2, 0, 0, 0, []), (49, .newarray .long, 2, 0, 0, 1, []), (51, .putfield 25, 3, 8, 8, 2, []), (54, .aload_n 0, 1, 0, 0, 0, []), (55, .bipush 8, 2, 0, 0, 0, []), (57, .newarray .long, 2, 0, 0, 1, []), (59, .putfield 29, 3, 8, 9, 2, []), (62, .aload_n 0, 1, 0, 0, 0, []), (63, .bipush 9, 2, 0, 0, 0, []), (65, .newarray .int, 2, 0, 0, 0, []), (67, .putfield 32, 3, 8, 10, 2, []), (70, .aload_n 0, 1, 0, 0, 0, []), (71, .iconst 3, 1, 0, 0, 0, []), (72, .newarray .int, 2, 0, 0, 0, []), (74, .putfield 35, 3, 8, 11, 2, []), (77, .aload_n 0, 1, 0, 0, 0, []), (78, .bipush 120, 2, 0, 0, 0, []), (80, .newarray .int, 2, 0, 0, 0, []), (82, .putfield 38, 3, 8, 12, 2, []), (85, .aload_n 0, 1, 0, 0, 0, []), (86, .bipush 8, 2, 0, 0, 0, []), (88, .newarray .int, 2, 0, 0, 0, []), (90, .putfield 41, 3, 8, 13, 2, []), (93, .aload_n 0, 1, 0, 0, 0, []), (94, .iconst 3, 1, 0, 0, 0, []), (95, .newarray .int, 2, 0, 0, 0, []), (97, .putfield 44, 3, 8, 14, 2, []), (100, .aload_n 0, 1, 0, 0, 0, []), (101, .iconst 5, 1, 0, 0, 0, []), (102, .newarray .int, 2, 0, 0, 0, []), (104, .putfield 47, 3, 8, 15, 2, []), (107, .aload_n 0, 1, 0, 0, 0, []), (108, .sipush 969, 3, 0, 0, 0, []), (111, .newarray .long, 2, 0, 0, 1, []), (113, .putfield 50, 3, 8, 16, 2, []), (116, .aload_n 0, 1, 0, 0, 0, []), (117, .sipush 200, 3, 0, 0, 0, []), (120, .newarray .int, 2, 0, 0, 0, []), (122, .putfield 53, 3, 8, 20, 2, []), (125, .aload_n 0, 1, 0, 0, 0, []), (126, .bipush 10, 2, 0, 0, 0, []), (128, .newarray .int, 2, 0, 0, 0, []), (130, .putfield 56, 3, 8, 21, 2, []), (133, .aload_n 0, 1, 0, 0, 0, []), (134, .bipush 72, 2, 0, 0, 0, []), (136, .newarray .boolean, 2, 0, 0, 2, []), (138, .putfield 59, 3, 8, 22, 2, []), (141, .iconst 0, 1, 0, 0, 0, []), (142, .istore_n 1, 1, 0, 0, 0, []), (143, .iload_n 1, 1, 0, 0, 0, []), (144, .iconst 3, 1, 0, 0, 0, []), (145, .if_icmp .ge 16, 3, 161, 0, 0, []), (148, .aload_n 0, 1, 0, 0, 0, []), (149, .getfield 35, 3, 8, 11, 2, []), (152, .iload_n 1, 1, 0, 0, 0, []), (153, .iconst (-1), 1, 0, 0, 0, []), (154, .iastore, 1, 0, 0, 0, []), (155, .iinc 1 1, 3, 0, 0, 0, []), (158, .goto (-15), 3, 143, 0, 0, []), (161, .return_, 1, 0, 0, 0, [])]
theorem ck0_8 : cc8.all (chk0 mc8.2.1 mc8.2.2.1 kc8) = true := by decide +kernel
theorem cm8 : plainName (MC 8).1.cls = true ∧ (MC 8).2.2.2 = none ∧ (MC 8).1.name = "<init>" ∧ ∀ en ∈ cc8, Ent0OK MC (MC 8).1.cls (MC 8).2.1 (MC 8).2.2.1 en := ⟨by decide +kernel, rfl, rfl, fun en hen => chk0_ok kc8_ok (List.all_eq_true.mp ck0_8 en hen)⟩
def CC (k : Nat) : List Ent := ([cc0, cc1, cc2, cc3, cc4, cc5, cc6, cc7, cc8] : List (List Ent)).getD k []
theorem CC_ok : ∀ cid, CC cid ≠ [] → plainName (MC cid).1.cls = true ∧ (MC cid).2.2.2 = none ∧ (MC cid).1.name = "<init>" ∧ ∀ en ∈ CC cid, Ent0OK MC (MC cid).1.cls (MC cid).2.1 (MC cid).2.2.1 en
  | 0, _ => cm0
  | 1, _ => cm1
  | 2, _ => cm2
  | 3, _ => cm3
  | 4, _ => cm4
  | 5, _ => cm5
  | 6, _ => cm6
  | 7, _ => cm7
  | 8, _ => cm8
  | _ + 9, h => absurd rfl h
theorem kcL_0 : Lnk0OK MC RL (2, 7, 7, 0, 0, 0) := ⟨RX7, TX7, tyX7, rfl, uw7, tyX7_ok, by decide +kernel, tb_1 14 rfl rfl, tb_1 15 rfl rfl, tb_1 1 rfl rfl⟩
theorem kcL_1 : Lnk0OK MC RL (5, 9, 0, 0, 0, 0) := ⟨⟨by decide +kernel, rfl, rfl⟩, tb_1 18 rfl rfl, tb_1 1 rfl rfl, ⟨by decide +kernel, by decide +kernel⟩, by decide +kernel, Or.inl (tb_1 16 rfl rfl), tb_1 17 rfl rfl⟩
theorem kcL_2 : Lnk0OK MC RL (2, 10, 8, 0, 0, 0) := ⟨RX8, TX8, tyX8, rfl, uw8, tyX8_ok, by decide +kernel, tb_4 133 rfl rfl, tb_4 134 rfl rfl, tb_1 9 rfl rfl⟩
theorem kcL_3 : Lnk0OK MC RL (5, 12, 8, 0, 0, 0) := ⟨⟨by decide +kernel, rfl, rfl⟩, tb_4 137 rfl rfl, tb_1 9 rfl rfl, ⟨by decide +kernel, by decide +kernel⟩, by decide +kernel, Or.inl (tb_4 135 rfl rfl), tb_4 136 rfl rfl⟩
def kcL : List Lnk := [(2, 7, 7, 0, 0, 0), (5, 9, 0, 0, 0, 0), (2, 10, 8, 0, 0, 0), (5, 12, 8, 0, 0, 0)]
theorem kcL_ok : ∀ q ∈ kcL, Lnk0OK MC RL q := List.forall_mem_cons.mpr ⟨kcL_0, List.forall_mem_cons.mpr ⟨kcL_1, List.forall_mem_cons.mpr ⟨kcL_2, List.forall_mem_cons.mpr ⟨kcL_3, fun _ h => absurd h List.not_mem_nil⟩⟩⟩⟩
def ccL : List Ent := [(0, .new 7, 3, 7, 0, 0, []), (3, .dup, 1, 0, 0, 0, []), (4, .invokespecial 9, 3, 0, 0, 6, []), (7, .astore_n 1, 1, 0, 0, 0, []), (8, .new 10, 3, 8, 0, 0, []), (11, .dup, 1, 0, 0, 0, []), (12, .invokespecial 12, 3, 8, 0, 6, []), (15, .astore_n 2, 1, 0, 0, 0, [])]
theorem ck0_L : ccL.all (chk0 code 4 kcL) = true := by decide +kernel
theorem ccL_ok : ∀ en ∈ ccL, Ent0OK MC RL code 4 en := fun en hen => chk0_ok kcL_ok (List.all_eq_true.mp ck0_L en hen)
/-- what the two objects are when they have been made -/
def LA : List E0 := ((evC MC CC 4 0 [.ref 0] [(5 + 7, nf 7, dfl 7)]).getD ([], 0, 0)).1
theorem evA : evC MC CC 4 0 [.ref 0] [(5 + 7, nf 7, dfl 7)] = some (LA, 116, 2143) := by decide +kernel
theorem LA_len : LA.length = 117 := by decide +kernel
def LB : List E0 := ((evC MC CC 4 8 [.ref 117] (LA ++ [(5 + 8, nf 8, dfl 8)])).getD ([], 0, 0)).1
theorem evB : evC MC CC 4 8 [.ref 117] (LA ++ [(5 + 8, nf 8, dfl 8)]) = some (LB, 17, 1909) := by decide +kernel
theorem LB_len : LB.length = 135 := by decide +kernel
