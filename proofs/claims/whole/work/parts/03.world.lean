/-! ===== the small machine's store as a world of cells ===== -/
def TB : List Cond := lw_tbl.filter goodWord
theorem tb_good {w : Cond} (h : w ∈ TB) : w ∈ lw_tbl ∧ goodWord w = true := by
  simpa [TB, List.mem_filter] using h
theorem tb_at (i : Nat) {w : Cond} (h : lw_tbl[i]? = some w) (g : goodWord w = true) : w ∈ TB := List.mem_filter.mpr ⟨List.mem_of_getElem? h, g⟩
theorem tb_p (i : Nat) {w : Cond} (h : (k2_sels lw_privs)[i]? = some w) (g : goodWord w = true) : w ∈ TB := List.mem_filter.mpr ⟨List.mem_append_left _ (List.mem_of_getElem? h), g⟩
theorem lw_1 (i : Nat) {w : Cond} (h : tables_1_1[i]? = some w) : w ∈ lw_tbl := List.mem_append_right _ (List.mem_append_left _ (List.mem_of_getElem? h))
theorem lw_2 (i : Nat) {w : Cond} (h : tables_1_2[i]? = some w) : w ∈ lw_tbl := List.mem_append_right _ (List.mem_append_right _ (List.mem_append_left _ (List.mem_of_getElem? h)))
theorem lw_3 (i : Nat) {w : Cond} (h : tables_1_3[i]? = some w) : w ∈ lw_tbl := List.mem_append_right _ (List.mem_append_right _ (List.mem_append_right _ (List.mem_append_left _ (List.mem_of_getElem? h))))
theorem lw_4 (i : Nat) {w : Cond} (h : tables_1_4[i]? = some w) : w ∈ lw_tbl := List.mem_append_right _ (List.mem_append_right _ (List.mem_append_right _ (List.mem_append_right _ (List.mem_append_left _ (List.mem_of_getElem? h)))))
theorem lw_5 (i : Nat) {w : Cond} (h : tables_1_5[i]? = some w) : w ∈ lw_tbl := List.mem_append_right _ (List.mem_append_right _ (List.mem_append_right _ (List.mem_append_right _ (List.mem_append_right _ (List.mem_append_left _ (List.mem_of_getElem? h))))))
theorem lw_6 (i : Nat) {w : Cond} (h : tables_1_6[i]? = some w) : w ∈ lw_tbl := List.mem_append_right _ (List.mem_append_right _ (List.mem_append_right _ (List.mem_append_right _ (List.mem_append_right _ (List.mem_append_right _ (List.mem_of_getElem? h))))))
theorem tb_1 (i : Nat) {w : Cond} (h : tables_1_1[i]? = some w) (g : goodWord w = true) : w ∈ TB := List.mem_filter.mpr ⟨lw_1 i h, g⟩
theorem tb_2 (i : Nat) {w : Cond} (h : tables_1_2[i]? = some w) (g : goodWord w = true) : w ∈ TB := List.mem_filter.mpr ⟨lw_2 i h, g⟩
theorem tb_3 (i : Nat) {w : Cond} (h : tables_1_3[i]? = some w) (g : goodWord w = true) : w ∈ TB := List.mem_filter.mpr ⟨lw_3 i h, g⟩
theorem tb_4 (i : Nat) {w : Cond} (h : tables_1_4[i]? = some w) (g : goodWord w = true) : w ∈ TB := List.mem_filter.mpr ⟨lw_4 i h, g⟩
theorem tb_5 (i : Nat) {w : Cond} (h : tables_1_5[i]? = some w) (g : goodWord w = true) : w ∈ TB := List.mem_filter.mpr ⟨lw_5 i h, g⟩
theorem tb_6 (i : Nat) {w : Cond} (h : tables_1_6[i]? = some w) (g : goodWord w = true) : w ∈ TB := List.mem_filter.mpr ⟨lw_6 i h, g⟩
theorem tb_goodIn {w : Cond} (h : w ∈ TB) : GoodIn TB (w :: TB) := by
  intro v hv
  rcases List.mem_cons.mp hv with rfl | hv
  · exact ⟨h, good_of_word (tb_good h).2⟩
  · exact ⟨hv, good_of_word (tb_good hv).2⟩
def enc (ad : Nat → Nat) : Value → Value
  | .ref k => .ref (ad k)
  | .int x => .int x
  | .long x => .long x
  | .float x => .float x
  | .double x => .double x
  | .null => .null
  | .retAddr x => .retAddr x
def elv (ad : Nat → Nat) (lv : LV) : LV := lv.map fun q => (q.1, enc ad q.2)
def est (ad : Nat → Nat) (st : List Value) : List Value := st.map (enc ad)
theorem enc_cat (ad : Nat → Nat) (v : Value) : (enc ad v).category = v.category := by cases v <;> rfl
theorem est_cat (ad : Nat → Nat) (st : List Value) : ((est ad st).map fun v => v.category).sum = (st.map fun v => v.category).sum := by
  simp [est, Function.comp_def, enc_cat]
theorem elv_lset1 (ad : Nat → Nat) (lv : LV) (i : Nat) (v : Value) : (i, enc ad v) :: (elv ad lv).filter (fun q => !(q.1 == i) && !(q.1 + 1 == i && q.2.category == 2)) = elv ad (lset1 lv i v) := by
  simp [elv, lset1, List.filter_map, Function.comp_def, enc_cat]
theorem elv_lset2 (ad : Nat → Nat) (lv : LV) (i : Nat) (v : Value) : (i, enc ad v) :: (elv ad lv).filter (fun q => !(q.1 == i) && (!(q.1 == i + 1) && !(q.1 + 1 == i && q.2.category == 2))) = elv ad (lset2 lv i v) := by
  simp [elv, lset2, List.filter_map, Function.comp_def, enc_cat]
theorem lget_mem : ∀ {lv : LV} {i : Nat} {v : Value}, lget lv i = some v → (i, v) ∈ lv
  | [], _, _, h => by cases h
  | (j, w) :: r, i, v, h => by
    unfold lget at h
    by_cases hj : j = i
    · subst hj
      simp at h
      rw [h]
      exact List.mem_cons_self
    · have hb : (j == i) = false := by simpa using hj
      rw [hb] at h
      exact List.mem_cons_of_mem _ (lget_mem h)
theorem lget_has {ad : Nat → Nat} {ls : Array Slot} {nL : Nat} {lv : LV} {i : Nat} {v : Value} (h : lv_has ls nL (elv ad lv)) (hg : lget lv i = some v) : ls[i]? = some (.val (enc ad v)) := h.2.2 (i, enc ad v) (List.mem_map.mpr ⟨(i, v), lget_mem hg, rfl⟩)
theorem elv_pick {ad : Nat → Nat} {ls : Array Slot} {nL : Nat} {lv : LV} (ks : List Nat) (h : lv_has ls nL (elv ad lv)) : lv_has ls nL (elv ad (lv_pick lv ks)) := by
  refine lv_sub h ks ?_
  induction ks with
  | nil => rfl
  | cons k ks ih =>
    unfold lv_pick at ih ⊢
    unfold elv at ih ⊢
    simp only [List.filterMap_cons, List.getElem?_map]
    cases lv[k]? with
    | none => simpa using ih
    | some q => simpa using ih
theorem elv_idx {ad : Nat → Nat} {lv : LV} {i : Nat} {v : Value} (h : lget lv i = some v) : ∃ k : Nat, (elv ad lv)[k]? = some (i, enc ad v) := by
  have h1 : (i, enc ad v) ∈ elv ad lv := List.mem_map.mpr ⟨(i, v), lget_mem h, rfl⟩
  obtain ⟨k, hk, e⟩ := List.getElem_of_mem h1
  exact ⟨k, by rw [List.getElem?_eq_getElem hk, e]⟩
/-! the world -/
def fvl (ad : Nat → Nat) (σ : Sg) (ci k j : Nat) : Value := match ft ci j with
  | 1 => .long (σ.2 k j)
  | 2 => .ref (ad (rf k j))
  | _ => .int (σ.1 k j)
def cel (tc : Nat → ClassId) (ad : Nat → Nat) (σ : Sg) (k : Nat) : va_E := match ck k with
  | 0 => .inl (tc 0, al k, .inl (σ.1 k))
  | 1 => .inl (tc 1, al k, .inr (.inl (σ.2 k)))
  | 2 => .inl (tc 2, al k, .inl (σ.1 k))
  | 3 => .inl (tc 3, al k, .inr (.inr (.inr (.inr fun j => some (ad (k + 1 + j))))))
  | 4 => .inl (tc 4, al k, .inr (.inr (.inr (.inr fun j => some (ad (k + 1 + j))))))
  | n + 5 => .inr (n, (List.range (nf n)).map (fvl ad σ n k))
def tys (tc : Nat → ClassId) : List (ClassId × FieldType) := [(tc 0, .int), (tc 1, .long), (tc 2, .boolean), (tc 3, .array .int), (tc 4, .array .long)]
def wld (tc : Nat → ClassId) (ad : Nat → Nat) (σ : Sg) : va_W := (List.range NC).map fun k => (ad k, cel tc ad σ k)
def inA (ad : Nat → Nat) (q : Nat) : Prop := ∃ k, k < NC ∧ q = ad k
theorem ck_ge {c : Nat} (h : NC ≤ c) : ck c = 99 := by
  have hb : Nat.blt c NC = false := by
    cases hq : Nat.blt c NC with
    | false => rfl
    | true => exact absurd (Nat.blt_eq.mp hq) (by omega)
  unfold ck
  rw [hb]
  rfl
theorem ck_lt {c n : Nat} (h : ck c = n) (hn : n ≠ 99) : c < NC := by
  rcases Nat.lt_or_ge c NC with q | q
  · exact q
  · exact absurd (h.symm.trans (ck_ge q)) hn
theorem wld_get {tc : Nat → ClassId} {ad : Nat → Nat} {σ : Sg} {k : Nat} (h : k < NC) : (wld tc ad σ)[k]? = some (ad k, cel tc ad σ k) := by
  unfold wld
  rw [List.getElem?_map, List.getElem?_range h]
  rfl
theorem wld_set {tc : Nat → ClassId} {ad : Nat → Nat} {σ σ2 : Sg} {k : Nat} (h : k < NC) (hs : ∀ j, j ≠ k → cel tc ad σ2 j = cel tc ad σ j) : (wld tc ad σ).set k (ad k, cel tc ad σ2 k) = wld tc ad σ2 := by
  refine List.ext_getElem? fun i => ?_
  rw [List.getElem?_set]
  by_cases hk : k = i
  · subst hk
    rw [if_pos rfl, wld_get h]
    simp [wld, h]
  · rw [if_neg hk]
    rcases Nat.lt_or_ge i NC with q | q
    · rw [wld_get q, wld_get q, hs i (fun z => hk z.symm)]
    · rw [List.getElem?_eq_none (by simp [wld]; exact q), List.getElem?_eq_none (by simp [wld]; exact q)]
theorem cel_si {tc : Nat → ClassId} {ad : Nat → Nat} {σ : Sg} {c j k : Nat} {x : Int32} (h : k ≠ c) : cel tc ad (si σ c j x) k = cel tc ad σ k := by
  have e : fvl ad (si σ c j x) = fun ci k' => if k' = k then fvl ad σ ci k' else fvl ad (si σ c j x) ci k' := by
    funext ci k' j'
    by_cases hk : k' = k
    · rw [if_pos hk]
      subst hk
      unfold fvl si
      simp [h]
    · rw [if_neg hk]
  unfold cel
  rw [e]
  simp [si, h]
theorem cel_sl {tc : Nat → ClassId} {ad : Nat → Nat} {σ : Sg} {c j k : Nat} {x : Int64} (h : k ≠ c) : cel tc ad (sl σ c j x) k = cel tc ad σ k := by
  have e : fvl ad (sl σ c j x) = fun ci k' => if k' = k then fvl ad σ ci k' else fvl ad (sl σ c j x) ci k' := by
    funext ci k' j'
    by_cases hk : k' = k
    · rw [if_pos hk]
      subst hk
      unfold fvl sl
      simp [h]
    · rw [if_neg hk]
  unfold cel
  rw [e]
  simp [sl, h]
theorem cel_scp {tc : Nat → ClassId} {ad : Nat → Nat} {σ : Sg} {c0 c sp dp n k : Nat} (h : k ≠ c) : cel tc ad (scp σ c0 c sp dp n) k = cel tc ad σ k := by
  have e : fvl ad (scp σ c0 c sp dp n) = fun ci k' => if k' = k then fvl ad σ ci k' else fvl ad (scp σ c0 c sp dp n) ci k' := by
    funext ci k' j'
    by_cases hk : k' = k
    · rw [if_pos hk]
      subst hk
      unfold fvl scp
      simp [h]
    · rw [if_neg hk]
  unfold cel
  rw [e]
  simp [scp, h]
theorem wld_D {tc : Nat → ClassId} {ad : Nat → Nat} {A : Nat → Prop} (hi : ∀ i j, i < NC → j < NC → ad i = ad j → i = j) (hA : ∀ q, inA ad q → A q) (σ : Sg) : va_D A (wld tc ad σ) := by
  have key : ∀ (i : Nat) (p : Nat × va_E), (wld tc ad σ)[i]? = some p → i < NC ∧ p.1 = ad i := by
    intro i p h
    have hl : i < NC := by
      have := (List.getElem?_eq_some_iff.mp h).1
      simpa [wld] using this
    rw [wld_get hl] at h
    cases h
    exact ⟨hl, rfl⟩
  refine ⟨fun i j p q hp hq e => ?_, fun k q hk => ?_⟩
  · obtain ⟨a1, a2⟩ := key i p hp
    obtain ⟨b1, b2⟩ := key j q hq
    exact hi i j a1 b1 (by rw [← a2, ← b2]; exact e)
  · obtain ⟨a1, a2⟩ := key k q hk
    exact hA _ ⟨k, a1, a2⟩
/-- the static arrays, as the Statement has them -/
def Stc (A : Nat → Prop) (ad : Nat → Nat) (U : State) (H : Heap) : Prop := ∀ i, i < 5 → va_Z "PureGroups" (sq (1000 + i)).1 "[I" (.ref (ad (1000 + i))) A U H ∧ va_T .int (ad (1000 + i)) (sn (1000 + i)) (fun j => .int (sv (1000 + i) j)) A U H
theorem Stc.moved {A : Nat → Prop} {ad : Nat → Nat} {u U : State} {H : Heap} (hvm : u.vm.Alike U.vm) (h : Stc A ad u H) : Stc A ad U H := fun i hi => ⟨(h i hi).1.moved hvm, (h i hi).2.moved hvm⟩
theorem Stc.narrow {A B : Nat → Prop} {ad : Nat → Nat} {U : State} {H : Heap} (h : Stc A ad U H) (hAB : ∀ q, B q → A q) : Stc B ad U H := fun i hi => ⟨(h i hi).1.narrow hAB, (h i hi).2.narrow hAB⟩
theorem Stc.kept {A : Nat → Prop} {ad : Nat → Nat} {U : State} {H H1 : Heap} (h : Stc A ad U H) (hq : ∀ a : Nat, a < H.size → ¬ A a → H1[a]? = H[a]?) : Stc A ad U H1 := fun i hi => ⟨(h i hi).1.kept hq, (h i hi).2.kept hq⟩
/-- links to nest mates: they are carried from state to state -/
def isNst : Cond → Bool
  | .fieldLinkNest _ _ _ _ _ _ => true
  | .methodLinkNest _ _ _ _ => true
  | _ => false
def Nst (U : State) : Prop := ∀ w, w ∈ lw_tbl → isNst w = true → va_Nw w U
theorem Nst.warm {s U : State} (hW : s.WarmedH U.vm) (h : Nst s) : Nst U := by
  intro w hw hn
  have h1 := h w hw hn
  cases w with
  | fieldLinkNest a b c d e f => exact va_Nw.warmF hW h1
  | methodLinkNest a b c d => exact va_Nw.warmM hW h1
  | _ => cases hn
theorem Nst.same {u U : State} (hvm : u.vm = U.vm) (h : Nst u) : Nst U := by
  intro w hw hn
  have h1 := h w hw hn
  cases w with
  | fieldLinkNest a b c d e f => exact va_Nw.same rfl hvm h1
  | methodLinkNest a b c d => exact va_Nw.same rfl hvm h1
  | _ => cases hn
/-! what the tables must say of an instruction -/
abbrev MI : Type := MethodName × ByteArray × Nat × Option FieldType
def ilen : Instr → Nat
  | .iload _ | .lload _ | .aload _ | .istore _ | .lstore _ | .astore _ | .bipush _ | .ldc _ => 2
  | .iinc _ _ | .sipush _ | .ldc_w _ | .ldc2_w _ | .ifCond _ _ | .if_icmp _ _ | .goto _ | .getfield _ | .putfield _ | .getstatic _ | .invokestatic _ | .invokevirtual _ => 3
  | _ => 1
def dty : Nat → FieldType
  | 0 => .int
  | 1 => .long
  | _ => .boolean
def FldOK (own : String) (idx ci k d : Nat) (put : Bool) : Prop := ∃ (C : String) (T : u_T) (N : Nat) (ty0 : Nat → FieldType), cl[ci]? = some (C, T, N) ∧ N = nf ci ∧ k < N ∧ ft ci k = d ∧ (∀ w ∈ u_ws C T N, w ∈ TB) ∧ Cond.fieldLink own idx (T k).1 (T k).2.1 (T k).2.2.1 ∈ TB ∧ (∀ k, k < N → parseFieldDescriptor (T k).2.2.1 = some (ty0 k)) ∧ (∀ a, a < N → ∀ b, b < N → a ≠ b → (T a).2.1 ≠ (T b).2.1) ∧ (put = true → (T k).2.2.2 = false ∧ ty0 k = dty d)
def StaOK (own : String) (idx a : Nat) : Prop := ∃ i, i < 5 ∧ a = 1000 + i ∧ (Cond.fieldLink own idx "PureGroups" (sq a).1 "[I" ∈ TB ∨ ∃ host, Cond.fieldLinkNest own idx "PureGroups" (sq a).1 "[I" host ∈ lw_tbl)
def CalOK (M : Nat → MI) (mid b : Nat) : Prop := (M mid).2.2.1 ≤ 45 ∧ Cond.code (M mid).1 (M mid).2.1 (M mid).2.2.1 (M mid).2.2.2 ∈ TB ∧ Cond.initialized (M mid).1.cls ∈ TB ∧ ((M mid).1.cls ≠ "java/lang/invoke/MethodHandle" ∧ (M mid).1.cls ≠ "java/lang/invoke/VarHandle") ∧ (parseMethodDescriptor (M mid).1.desc).map (fun d => d.parameters.length) = some b
def VirOK (M : Nat → MI) (own : String) (idx mid b d : Nat) : Prop := CalOK M mid b ∧ Cond.methodLink own idx (M mid).1 ∈ TB ∧ Cond.instanceMethod (M mid).1 ∈ TB ∧ Cond.selects (M mid).1.cls (M mid).1 (M mid).1 ∈ TB ∧ ∃ q : vw_C, cl[d]? = some q ∧ q.1 = (M mid).1.cls
def StmOK (M : Nat → MI) (own : String) (idx mid b : Nat) : Prop := CalOK M mid b ∧ (Cond.methodLink own idx (M mid).1 ∈ TB ∨ ∃ host, Cond.methodLinkNest own idx (M mid).1 host ∈ lw_tbl) ∧ Cond.static (M mid).1 ∈ TB
def ArcOK (own : String) (idx : Nat) : Prop := Cond.methodLink own idx arraycopyName ∈ TB ∧ Cond.native arraycopyName ∈ TB ∧ Cond.static arraycopyName ∈ TB ∧ Cond.initialized "java/lang/System" ∈ TB
def MabOK (own : String) (idx : Nat) : Prop := Cond.methodLink own idx Lib.Math.abs.name ∈ TB ∧ Cond.static Lib.Math.abs.name ∈ TB ∧ Cond.initialized "java/lang/Math" ∈ TB ∧ Cond.code Lib.Math.abs.name Lib.Math.abs.code 1 (some .int) ∈ TB
def MalOK (own : String) (idx : Nat) : Prop := Cond.methodLink own idx Lib.MathLoose.abs_long.x ∈ TB ∧ Cond.static Lib.MathLoose.abs_long.x ∈ TB ∧ Cond.initialized "java/lang/Math" ∈ TB ∧ Cond.code Lib.MathLoose.abs_long.x Lib.MathLoose.abs_long.code 2 (some .long) ∈ TB
def MaxOK (own : String) (idx : Nat) : Prop := Cond.methodLink own idx Lib.Math.max.name ∈ TB ∧ Cond.static Lib.Math.max.name ∈ TB ∧ Cond.initialized "java/lang/Math" ∈ TB ∧ Cond.code Lib.Math.max.name Lib.Math.max.code 2 (some .int) ∈ TB
def MinOK (own : String) (idx : Nat) : Prop := Cond.methodLink own idx Lib.Math.min.name ∈ TB ∧ Cond.static Lib.Math.min.name ∈ TB ∧ Cond.initialized "java/lang/Math" ∈ TB ∧ Cond.code Lib.Math.min.name Lib.Math.min.code 2 (some .int) ∈ TB
def SwOK (pc a : Nat) (df lo hi : Int) (offs : Array Int) (zs : List Int) : Prop := (pc : Int) + df = (a : Int) ∧ hi = lo + zs.length - 1 ∧ (-2147483648 ≤ lo ∧ hi ≤ 2147483647) ∧ ∀ i, i < zs.length → ∃ off, offs[i]? = some off ∧ (pc : Int) + off = ((zs.getD i 0).toNat : Int)
def EntOK (M : Nat → MI) (own : String) (cc : ByteArray) (nL : Nat) (e : Ent) : Prop :=
  decode cc e.1 = .ok (e.2.1, e.2.2.1) ∧ (match e with
  | (pc, ins, len, a, b, d, zs) => (match ins with
    | .istore i => i < nL
    | .istore_n k => k.val < nL
    | .astore i => i < nL
    | .astore_n k => k.val < nL
    | .lstore i => i + 1 < nL
    | .lstore_n k => k.val + 1 < nL
    | .iinc i _ => i < nL
    | .bipush n => (Int8.ofInt n).toInt32 = Int32.ofInt n
    | .sipush n => (Int16.ofInt n).toInt32 = Int32.ofInt n
    | .ldc idx => ∃ z r, zs = z :: r ∧ Cond.constant own idx (Int32.ofInt z) ∈ TB
    | .ldc_w idx => ∃ z r, zs = z :: r ∧ Cond.constant own idx (Int32.ofInt z) ∈ TB
    | .ldc2_w idx => ∃ z r, zs = z :: r ∧ Cond.constantLong own idx (Int64.ofInt z) ∈ TB
    | .ifCond _ off => (pc : Int) + off = (a : Int)
    | .if_icmp _ off => (pc : Int) + off = (a : Int)
    | .goto off => (pc : Int) + off = (a : Int)
    | .tableswitch df lo hi offs => SwOK pc a df lo hi offs zs
    | .getfield idx => FldOK own idx a b d false
    | .putfield idx => FldOK own idx a b d true
    | .getstatic idx => StaOK own idx a
    | .invokevirtual idx => VirOK M own idx a b d
    | .invokestatic idx => (d = 7 → ArcOK own idx) ∧ (¬ 6 < d → StmOK M own idx a b) ∧ (d = 8 → MabOK own idx) ∧ (d = 9 → MalOK own idx) ∧ (d = 10 → MaxOK own idx) ∧ (d = 11 → MinOK own idx)
    | _ => True)) ∧ ((∀ a b c d, e.2.1 ≠ .tableswitch a b c d) → e.2.2.1 = ilen e.2.1)
