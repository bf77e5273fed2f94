/-! ===== a constructor run on numbers alone, and the machine with it ===== -/
abbrev PS0 : Type := Nat × LV × List Value × List E0 × Nat × Nat
def vnum : Nat → Value → Option Int
  | 0, .int x => some x.toInt
  | 1, .long x => some x.toInt
  | 2, .ref k => some (k : Int)
  | _, _ => none
def exec0 (e : Ent) (lv : LV) (st : List Value) (L : List E0) : Option PS0 :=
  match e with
  | (pc, ins, _, a, b, d, _) =>
  match ins with
  | .aload_n k => (match lget lv k.val with
    | some (.ref x) => some (pc + 1, lv, .ref x :: st, L, 0, 0)
    | _ => none)
  | .iload_n k => (match lget lv k.val with
    | some (.int x) => some (pc + 1, lv, .int x :: st, L, 0, 0)
    | _ => none)
  | .istore_n k => (match st with
    | .int x :: r => some (pc + 1, lset1 lv k.val (.int x), r, L, 0, 0)
    | _ => none)
  | .astore_n k => (match st with
    | .ref x :: r => some (pc + 1, lset1 lv k.val (.ref x), r, L, 0, 0)
    | _ => none)
  | .iinc i n => (match lget lv i with
    | some (.int x) => some (pc + 3, lset1 lv i (.int (x + Int32.ofInt n)), st, L, 0, 0)
    | _ => none)
  | .iconst n => some (pc + 1, lv, .int (Int32.ofInt n) :: st, L, 0, 0)
  | .bipush n => some (pc + 2, lv, .int (Int32.ofInt n) :: st, L, 0, 0)
  | .sipush n => some (pc + 3, lv, .int (Int32.ofInt n) :: st, L, 0, 0)
  | .lconst n => some (pc + 1, lv, .long (Int64.ofNat n.val) :: st, L, 0, 0)
  | .dup => (match st with
    | .ref x :: r => some (pc + 1, lv, .ref x :: .ref x :: r, L, 0, 0)
    | _ => none)
  | .if_icmp .ge _ => (match st with
    | .int y :: .int x :: r => some (if y ≤ x then a else pc + 3, lv, r, L, 0, 0)
    | _ => none)
  | .goto _ => some (a, lv, st, L, 0, 0)
  | .new _ => some (pc + 3, lv, .ref L.length :: st, L ++ [(5 + a, nf a, dfl a)], 1, nf a)
  | .newarray _ => (match st with
    | .int n :: r => bif decide (n < 0) || Nat.blt 2000 n.toNatClampNeg || Nat.blt 2 d then none else some (pc + 2, lv, .ref L.length :: r, L ++ [(d, n.toNatClampNeg, List.replicate n.toNatClampNeg 0)], 1, n.toNatClampNeg)
    | _ => none)
  | .multianewarray _ _ => (match st with
    | .int k :: .int n :: r => bif decide (n < 0) || decide (k < 0) || Nat.blt 2000 n.toNatClampNeg || Nat.blt 2000 k.toNatClampNeg || Nat.blt 1 d then none else some (pc + 4, lv, .ref L.length :: r, L ++ ((3 + d, n.toNatClampNeg, []) :: List.replicate n.toNatClampNeg (d, k.toNatClampNeg, List.replicate k.toNatClampNeg 0)), 1 + n.toNatClampNeg, n.toNatClampNeg + n.toNatClampNeg * k.toNatClampNeg)
    | _ => none)
  | .putfield _ => (match st with
    | v :: .ref o :: r => (match L[o]? with
      | some (kd, N, fs) => (match vnum d v with
        | some x => bif (kd == 5 + a) && Nat.blt b fs.length then some (pc + 3, lv, r, L.set o (kd, N, fs.set b x), 0, 0) else none
        | none => none)
      | none => none)
    | _ => none)
  | .getfield _ => (match st with
    | .ref o :: r => (match L[o]? with
      | some (kd, _, fs) => bif (kd == 5 + a) && (d == 2) && !(decide (fs.getD b 0 < 0)) then some (pc + 3, lv, .ref (fs.getD b 0).toNat :: r, L, 0, 0) else none
      | none => none)
    | _ => none)
  | .iastore => (match st with
    | .int x :: .int i :: .ref o :: r => (match L[o]? with
      | some (kd, N, fs) => bif (kd == 0) && !(decide (i < 0)) && Nat.blt i.toNatClampNeg N && Nat.blt i.toNatClampNeg fs.length then some (pc + 1, lv, r, L.set o (kd, N, fs.set i.toNatClampNeg x.toInt), 0, 0) else none
      | none => none)
    | _ => none)
  | .invokespecial _ => bif d == 5 then (match st with
    | .ref _ :: r => bif Nat.ble (r.map fun v => v.category).sum 8 then some (pc + 3, lv, r, L, 0, 0) else none
    | _ => none) else none
  | _ => none
def NewOK (own : String) (idx ci : Nat) : Prop := ∃ (C : String) (T : u_T) (ty : Nat → FieldType), cl[ci]? = some (C, T, nf ci) ∧ (∀ w ∈ u_ws C T (nf ci), w ∈ TB) ∧ (∀ k, k < nf ci → parseFieldDescriptor (T k).2.2.1 = some (ty k)) ∧ (∀ k, k < nf ci → defaultValue (ty k) = dv (ft ci k)) ∧ Cond.classLink own idx C ∈ TB ∧ Cond.instantiable C (nf ci) ∈ TB ∧ Cond.initialized C ∈ TB
def Put0OK (own : String) (idx ci k d : Nat) : Prop := ∃ (C : String) (T : u_T) (N : Nat) (ty0 : Nat → FieldType), cl[ci]? = some (C, T, N) ∧ N = nf ci ∧ k < N ∧ ft ci k = d ∧ (∀ w ∈ u_ws C T N, w ∈ TB) ∧ Cond.fieldLink own idx (T k).1 (T k).2.1 (T k).2.2.1 ∈ TB ∧ (∀ k, k < N → parseFieldDescriptor (T k).2.2.1 = some (ty0 k)) ∧ (∀ a, a < N → ∀ b, b < N → a ≠ b → (T a).2.1 ≠ (T b).2.1) ∧ (T k).1 = own ∧ ((d = 0 ∧ ty0 k = .int) ∨ (d = 1 ∧ ty0 k = .long) ∨ (d = 2 ∧ ((∃ n, ty0 k = .object n) ∨ ∃ t, ty0 k = .array t)))
def Ini0OK (own : String) (idx : Nat) (M : MI) (b : Nat) : Prop := (M.2.2.1 ≤ 45 ∧ M.2.2.2 = none ∧ M.1.name = "<init>") ∧ Cond.code M.1 M.2.1 M.2.2.1 M.2.2.2 ∈ TB ∧ Cond.initialized M.1.cls ∈ TB ∧ (M.1.cls ≠ "java/lang/invoke/MethodHandle" ∧ M.1.cls ≠ "java/lang/invoke/VarHandle") ∧ (parseMethodDescriptor M.1.desc).map (fun d => d.parameters.length) = some b ∧ (Cond.methodLink own idx M.1 ∈ TB ∨ ∃ host, Cond.methodLinkNest own idx M.1 host ∈ lw_tbl) ∧ Cond.instanceMethod M.1 ∈ TB
def Ent0OK (M : Nat → MI) (own : String) (cc : ByteArray) (nL : Nat) (e : Ent) : Prop :=
  decode cc e.1 = .ok (e.2.1, e.2.2.1) ∧ (match e with
  | (pc, ins, len, a, b, d, _) => (match ins with
    | .aload_n _ => len = 1
    | .iload_n _ => len = 1
    | .istore_n k => len = 1 ∧ k.val < nL
    | .astore_n k => len = 1 ∧ k.val < nL
    | .iinc i _ => len = 3 ∧ i < nL
    | .iconst _ => len = 1
    | .bipush n => len = 2 ∧ (Int8.ofInt n).toInt32 = Int32.ofInt n
    | .sipush n => len = 3 ∧ (Int16.ofInt n).toInt32 = Int32.ofInt n
    | .lconst _ => len = 1
    | .dup => len = 1
    | .if_icmp .ge off => len = 3 ∧ (pc : Int) + off = (a : Int)
    | .goto off => len = 3 ∧ (pc : Int) + off = (a : Int)
    | .new idx => len = 3 ∧ NewOK own idx a
    | .newarray t => len = 2 ∧ Cond.arrayClass (newarray.typeOf t) ∈ TB ∧ newarray.typeOf t = dk d
    | .multianewarray idx n => len = 4 ∧ n = 2 ∧ Cond.classLink own idx ("[" ++ (FieldType.array (dk d)).toString) ∈ TB ∧ Cond.arrayClass (dk d) ∈ TB
    | .putfield idx => len = 3 ∧ Put0OK own idx a b d
    | .getfield idx => len = 3 ∧ FldOK own idx a b d false
    | .iastore => len = 1
    | .return_ => len = 1
    | .invokespecial idx => len = 3 ∧ (d = 5 → Cond.methodLink own idx Lib.objectInit ∈ TB ∧ Cond.instanceMethod Lib.objectInit ∈ TB ∧ Cond.code Lib.objectInit ⟨#[0xb1]⟩ 1 none ∈ TB) ∧ (d = 6 → Ini0OK own idx (M a) b)
    | _ => False))
section CTR3
variable {p : Program} {l : Launch} {e : Env} {R : Room} {s : State} {m : MethodId} {args : Array Value} {below : List Frame} {meth : Method} {c : Code} {Qs : State → Prop}
variable {D : va_G} {tc : Nat → ClassId} {B : Nat} {own : String} {cc : ByteArray} {nL : Nat} {M : Nat → MI}
def Fy (p : Program) (R : Room) (s : State) (m : MethodId) (args : Array Value) (meth : Method) (c : Code) (D : va_G) (tc : Nat → ClassId) (own : String) (cc : ByteArray) (nL : Nat) : Prop :=
  p.tables.exec = Jvm.exec ∧ c.code = cc ∧ c.maxLocals = nL ∧ s.vm.findClass own = some m.cls ∧ (∀ w ∈ TB, w.before args s = true) ∧ va_K D cl (tys tc) s ∧ (Nst s ∧ Ovr s) ∧ (1 ≤ R.frames ∧ 64 ≤ R.locals)
abbrev Wk0 (p : Program) (l : Launch) (e : Env) (R : Room) (s : State) (m : MethodId) (args : Array Value) (below : List Frame) (meth : Method) (c : Code) (Qs : State → Prop) (D : va_G) (tc : Nat → ClassId) (B : Nat) (nL : Nat) (q : PS0) : Prop :=
  ∀ (H : Heap) (locs : List Loc) (ls : Array Slot), lv_has ls nL (elv (fun k => B + k) q.2.1) → va_P D cl (wl0 tc B q.2.2.2.1) H → H.size = B + q.2.2.2.1.length → va_S (fun x => B ≤ x) s.heap H locs → W p l e R s m args below meth c H locs q.2.2.2.2.1 q.2.2.2.2.2 Qs (F0 m q.1 ls (est (fun k => B + k) q.2.2.1))
theorem upd_set {fs : List Int} {i : Nat} {x : Int32} (h : i < fs.length) : upd (fun j => Int32.ofInt (fs.getD j 0)) i x = fun j => Int32.ofInt ((fs.set i x.toInt).getD j 0) := by
  funext j
  unfold upd List.getD
  rw [List.getElem?_set]
  by_cases hj : j = i
  · subst hj
    simp [h]
  · rw [if_neg hj, if_neg (fun q => hj q.symm)]
theorem fv_set {B ci b : Nat} {fs : List Int} {x : Int} (hb : b < nf ci) (h : b < fs.length) : ((List.range (nf ci)).map fun j => fv0 B (ft ci j) ((fs.set b x).getD j 0)) = ((List.range (nf ci)).map fun j => fv0 B (ft ci j) (fs.getD j 0)).set b (fv0 B (ft ci b) x) := by
  refine map_set hb ?_ (fun j hj => ?_)
  · simp [List.getD, h]
  · unfold List.getD
    rw [List.getElem?_set_ne (fun q => hj q.symm)]
theorem fv0_r (B : Nat) {x : Int} (h : ¬ x < 0) : fv0 B 2 x = .ref (B + x.toNat) := by
  unfold fv0
  rw [decide_eq_false h]
  rfl
theorem vnum_fv {B d : Nat} {v : Value} {x : Int} (h : vnum d v = some x) : fv0 B d x = enc (fun k => B + k) v := by
  match d, v, h with
  | 0, .int y, h => cases h; simp [fv0, enc]
  | 1, .long y, h => cases h; simp [fv0, enc]
  | 2, .ref k, h =>
    cases h
    have : ¬ ((k : Nat) : Int) < 0 := by omega
    rw [fv0_r B this]
    rfl
theorem c_put {H : Heap} {locs : List Loc} {cells slots pc o : Nat} {ls : Array Slot} {rest : List Value} {v : Value} {ws : va_W} {A : Nat → Prop} {H0 : Heap} {fs : List Value} (hx : p.tables.exec = Jvm.exec) (hb : c.code = cc) (hts : ∀ w ∈ TB, w.before args s = true) (hown : s.vm.findClass own = some m.cls) (hK : va_K D cl (tys tc) s) {C : String} {T : u_T} {N ci idx k q0 : Nat} {ty0 : Nat → FieldType} (hc : cl[ci]? = some (C, T, N)) (hk : k < N) (hin : ∀ w ∈ u_ws C T N, w ∈ TB) (hlink : Cond.fieldLink own idx (T k).1 (T k).2.1 (T k).2.2.1 ∈ TB) (hty : ∀ k, k < N → parseFieldDescriptor (T k).2.2.1 = some (ty0 k)) (hnm : ∀ a, a < N → ∀ b, b < N → a ≠ b → (T a).2.1 ≠ (T b).2.1) (hdecl : (T k).1 = own) (hname : meth.name = "<init>")
    (hP : va_P D cl ws H) (hD : va_D A ws) (hS0 : va_S A H0 H locs) (he : ws[q0]? = some (o, .inr (ci, fs))) (hn : narrow (ty0 k) v = v) (hfit : fits (ty0 k) v = true) (hl : k < fs.length) (hdg : decode cc pc = .ok (.putfield idx, 3))
    (kk : ∀ (H1 : Heap) (locs1 : List Loc), va_P D cl (ws.set q0 (o, .inr (ci, fs.set k v))) H1 → H1.size = H.size → va_S A H0 H1 locs1 → W p l e R s m args below meth c H1 locs1 cells slots Qs (F0 m (pc + 3) ls rest)) : W p l e R s m args below meth c H locs cells slots Qs (F0 m pc ls (v :: .ref o :: rest)) := by
  have hap := va_apart (own := own) hts hin ty0 hty hnm hK hc
  obtain ⟨r, h1, cell, q1, q2, q3, q4⟩ := hP q0 _ he
  have hr : r = (C, T, N) := Option.some.inj (h1.symm.trans hc)
  subst hr
  obtain ⟨hS, hfc, kC, hkC, hkind⟩ := hK.1 ci _ hc
  obtain ⟨cf, kf, fi, f, hi, hsl⟩ := hS k hk
  have hlay := hts _ (hin _ (u_in_lay hk))
  unfold u_lay at hlay
  have hst := (u_facts hfc hkC (u_lays hts hin hk) hi).1
  have fin : ∀ H' : Heap, H'[o]? = some (cell.setSlot f.slot v) → H'.size = H.size → (∀ q, q ≠ o → H'[q]? = H[q]?) → W p l e R s m args below meth c H' (locs ++ [⟨o, f.slot⟩]) cells slots Qs (F0 m (pc + 3) ls rest) := fun H' e1 e2 e3 => by
    rw [hsl] at e1
    exact kk H' _ (hP.set hD he ⟨_, hc, t_OB.to (V := updV (vp_V fs) k v) ⟨_, e1, q2, q3, t_set q4 hap hk v⟩ (fun j _ => vp_updV_set hl v j)⟩ e3) e2 (hS0.put e2 e3 (hD.2 q0 _ he))
  by_cases hfin : (T k).2.2.2 = true
  · rw [if_pos hfin] at hlay
    have hcf : m.cls = cf := by
      obtain ⟨_, _, c', _, _, _, -, -, hf', -, -, -, hown2, -⟩ := Cond.laysFinal_spec hlay
      have e1 : c' = cf := by have := hi.symm.trans hf'; simp at this; exact this.1.symm
      rw [hdecl] at hown2
      rw [← e1]; exact Option.some.inj (hown.symm.trans hown2)
    have h6 := u_fits hfc hkC hkind (Or.inr hlay) hi (hty k hk) hn hfit
    exact W.putFinK hx hb hown (hts _ hlink) hi hst hcf hname (by rw [q2]; exact h6) q1 q3 (by rw [hsl]; exact k2_hasslot (q4 k hk)) rfl rfl hdg fin
  · rw [if_neg hfin] at hlay
    have h6 := u_store hfc hkC hkind hlay hi (hty k hk) hn hfit
    exact W.putK hx hb (f := f) ⟨hown, hts _ hlink, ⟨_, _, _, hi⟩, hst⟩ (by rw [q2]; exact h6) q1 q3 (by rw [hsl]; exact k2_hasslot (q4 k hk)) rfl rfl hdg fin
theorem exec0_ok (F : Fy p R s m args meth c D tc own cc nL) (hB : B ≤ s.heap.size) (hini : meth.name = "<init>" ∨ True) {en : Ent} (hok : Ent0OK M own cc nL en) (hpf : (∃ idx, en.2.1 = .putfield idx) → meth.name = "<init>") {lv : LV} {st : List Value} {L : List E0} {pc2 : Nat} {lv2 : LV} {st2 : List Value} {L2 : List E0} {dc ds c0 s0 : Nat} (h : exec0 en lv st L = some (pc2, lv2, st2, L2, dc, ds)) (hr : c0 + dc ≤ R.cells ∧ s0 + ds ≤ R.slots)
    (kk : Wk0 p l e R s m args below meth c Qs D tc B nL (pc2, lv2, st2, L2, c0 + dc, s0 + ds)) : Wk0 p l e R s m args below meth c Qs D tc B nL (en.1, lv, st, L, c0, s0) := by
  obtain ⟨hx, hb, hml, hown, hts, hK, ⟨hNs, hov⟩, hRm⟩ := F
  obtain ⟨pc, ins, len, a, b, d, zs⟩ := en
  obtain ⟨hdec, hok⟩ := hok
  intro H locs ls hl hP hz hS
  have hD : va_D (fun q => B ≤ q) (wl0 tc B L) := wl0_D
  dsimp only at hdec hok hl hP hz hS hpf ⊢
  cases ins with
  | aload_n k =>
    obtain rfl : len = 1 := hok
    simp only [exec0] at h
    split at h
    · rename_i x hg
      simp only [Option.some.injEq, Prod.mk.injEq] at h
      obtain ⟨rfl, rfl, rfl, rfl, rfl, rfl⟩ := h
      exact lv_aload_n hx hb hdec rfl (lget_has hl hg) (kk H locs ls hl hP hz hS)
    · cases h
  | iload_n k =>
    obtain rfl : len = 1 := hok
    simp only [exec0] at h
    split at h
    · rename_i x hg
      simp only [Option.some.injEq, Prod.mk.injEq] at h
      obtain ⟨rfl, rfl, rfl, rfl, rfl, rfl⟩ := h
      exact lv_iload_n hx hb hdec rfl (lget_has hl hg) (kk H locs ls hl hP hz hS)
    · cases h
  | istore_n k =>
    obtain ⟨rfl, hn⟩ := hok
    match st, h with
    | .int x :: r, h =>
      simp only [exec0, Option.some.injEq, Prod.mk.injEq] at h
      obtain ⟨rfl, rfl, rfl, rfl, rfl, rfl⟩ := h
      exact lv_istore_n hx hb hdec rfl hl hn (elv_lset1 _ lv k.val (.int x)) (fun ls' hl' => kk H locs ls' hl' hP hz hS)
  | astore_n k =>
    obtain ⟨rfl, hn⟩ := hok
    match st, h with
    | .ref x :: r, h =>
      simp only [exec0, Option.some.injEq, Prod.mk.injEq] at h
      obtain ⟨rfl, rfl, rfl, rfl, rfl, rfl⟩ := h
      exact lv_astore_n hx hb hdec rfl hl hn (elv_lset1 _ lv k.val (.ref x)) (fun ls' hl' => kk H locs ls' hl' hP hz hS)
  | iinc i n =>
    obtain ⟨rfl, hn⟩ := hok
    simp only [exec0] at h
    split at h
    · rename_i x hg
      simp only [Option.some.injEq, Prod.mk.injEq] at h
      obtain ⟨rfl, rfl, rfl, rfl, rfl, rfl⟩ := h
      obtain ⟨k, hk⟩ := elv_idx (ad := fun k => B + k) hg
      exact lv_iinc hx hb hdec hl hk rfl hn (elv_lset1 _ lv i (.int (x + Int32.ofInt n))) (fun ls' hl' => kk H locs ls' hl' hP hz hS)
    · cases h
  | iconst n =>
    obtain rfl : len = 1 := hok
    simp only [exec0, Option.some.injEq, Prod.mk.injEq] at h
    obtain ⟨rfl, rfl, rfl, rfl, rfl, rfl⟩ := h
    exact lv_iconst hx hb hdec rfl (kk H locs ls hl hP hz hS)
  | bipush n =>
    obtain ⟨rfl, hn⟩ := hok
    simp only [exec0, Option.some.injEq, Prod.mk.injEq] at h
    obtain ⟨rfl, rfl, rfl, rfl, rfl, rfl⟩ := h
    exact lv_bipush hx hb hdec hn (kk H locs ls hl hP hz hS)
  | sipush n =>
    obtain ⟨rfl, hn⟩ := hok
    simp only [exec0, Option.some.injEq, Prod.mk.injEq] at h
    obtain ⟨rfl, rfl, rfl, rfl, rfl, rfl⟩ := h
    exact lv_sipush hx hb hdec hn (kk H locs ls hl hP hz hS)
  | lconst n =>
    obtain rfl : len = 1 := hok
    simp only [exec0, Option.some.injEq, Prod.mk.injEq] at h
    obtain ⟨rfl, rfl, rfl, rfl, rfl, rfl⟩ := h
    exact lv_lconst hx hb hdec rfl (kk H locs ls hl hP hz hS)
  | dup =>
    obtain rfl : len = 1 := hok
    match st, h with
    | .ref x :: r, h =>
      simp only [exec0, Option.some.injEq, Prod.mk.injEq] at h
      obtain ⟨rfl, rfl, rfl, rfl, rfl, rfl⟩ := h
      exact lv_dup hx hb hdec rfl (kk H locs ls hl hP hz hS)
  | if_icmp cd off =>
    cases cd with
    | ge =>
      obtain ⟨rfl, hn⟩ := hok
      match st, h with
      | .int y :: .int x :: r, h =>
        simp only [exec0, Option.some.injEq, Prod.mk.injEq] at h
        obtain ⟨rfl, rfl, rfl, rfl, rfl, rfl⟩ := h
        have k1 := kk H locs ls hl hP hz hS
        dsimp only at k1
        exact lv_icmp_ge hx hb hdec hn (fun t => by rwa [if_pos t] at k1) (fun t => by rwa [if_neg t] at k1)
    | _ => exact hok.elim
  | goto off =>
    obtain ⟨rfl, hn⟩ := hok
    simp only [exec0, Option.some.injEq, Prod.mk.injEq] at h
    obtain ⟨rfl, rfl, rfl, rfl, rfl, rfl⟩ := h
    exact lv_goto hx hb hdec hn (kk H locs ls hl hP hz hS)
  | new idx =>
    obtain ⟨rfl, C, T, ty, w1, w2, w3, w4, w5, w6, w7⟩ := hok
    simp only [exec0, Option.some.injEq, Prod.mk.injEq] at h
    obtain ⟨rfl, rfl, rfl, rfl, rfl, rfl⟩ := h
    exact c_new hx hb hts hown hK w1 w2 w3 w4 w5 w6 w7 hP hz hS hr.1 hr.2 hdec (fun H1 hP1 hz1 hS1 => kk H1 locs ls hl hP1 hz1 hS1)
  | newarray t =>
    obtain ⟨rfl, w1, w2⟩ := hok
    match st, h with
    | .int n :: r, h =>
      simp only [exec0] at h
      cases hq : (decide (n < 0) || Nat.blt 2000 n.toNatClampNeg || Nat.blt 2 d) with
      | true => rw [hq] at h; cases h
      | false =>
        rw [hq] at h
        simp only [cond_false, Option.some.injEq, Prod.mk.injEq] at h
        obtain ⟨rfl, rfl, rfl, rfl, rfl, rfl⟩ := h
        simp only [Bool.or_eq_false_iff, decide_eq_false_iff_not] at hq
        have q2 : n.toNatClampNeg ≤ 2000 := by
          rcases Nat.lt_or_ge 2000 n.toNatClampNeg with q | q
          · rw [Nat.blt_eq.mpr q] at hq; cases hq.1.2
          · exact q
        have q3 : d < 3 := by
          rcases Nat.lt_or_ge 2 d with q | q
          · rw [Nat.blt_eq.mpr q] at hq; cases hq.2
          · omega
        exact c_newa hx hb hts hK q3 w1 w2 hq.1.1 q2 hP hz hS hr.1 hr.2 hdec (fun H1 hP1 hz1 hS1 => kk H1 locs ls hl hP1 hz1 hS1)
  | multianewarray idx n9 =>
    obtain ⟨rfl, rfl, w1, w2⟩ := hok
    match st, h with
    | .int k :: .int n :: r, h =>
      simp only [exec0] at h
      cases hq : (decide (n < 0) || decide (k < 0) || Nat.blt 2000 n.toNatClampNeg || Nat.blt 2000 k.toNatClampNeg || Nat.blt 1 d) with
      | true => rw [hq] at h; cases h
      | false =>
        rw [hq] at h
        simp only [cond_false, Option.some.injEq, Prod.mk.injEq] at h
        obtain ⟨rfl, rfl, rfl, rfl, rfl, rfl⟩ := h
        simp only [Bool.or_eq_false_iff, decide_eq_false_iff_not] at hq
        have q2 : n.toNatClampNeg ≤ 2000 := by
          rcases Nat.lt_or_ge 2000 n.toNatClampNeg with q | q
          · rw [Nat.blt_eq.mpr q] at hq; cases hq.1.1.2
          · exact q
        have q3 : k.toNatClampNeg ≤ 2000 := by
          rcases Nat.lt_or_ge 2000 k.toNatClampNeg with q | q
          · rw [Nat.blt_eq.mpr q] at hq; cases hq.1.2
          · exact q
        have q4 : d < 2 := by
          rcases Nat.lt_or_ge 1 d with q | q
          · rw [Nat.blt_eq.mpr q] at hq; cases hq.2
          · omega
        refine c_mna hx hb hts hown hK hov q4 w1 w2 hq.1.1.1.1 hq.1.1.1.2 q2 q3 hP hz hS hr.1 hr.2 hdec (fun H1 hP1 hz1 hS1 => ?_)
        have k1 := kk H1 locs ls hl hP1 hz1 hS1
        dsimp only at k1
        rw [← Nat.add_assoc, ← Nat.add_assoc] at k1
        exact k1
  | putfield idx =>
    obtain ⟨rfl, C, T, N, ty0, w1, rfl, w3, w4, w5, w6, w7, w8, w9, w10⟩ := hok
    have hname := hpf ⟨idx, rfl⟩
    match st, h with
    | v :: .ref o :: r, h =>
      simp only [exec0] at h
      split at h
      · rename_i kd N9 fs hL
        split at h
        · rename_i x hv
          cases hq : ((kd == 5 + a) && Nat.blt b fs.length) with
          | false => rw [hq] at h; cases h
          | true =>
            rw [hq] at h
            simp only [cond_true, Option.some.injEq, Prod.mk.injEq] at h
            obtain ⟨rfl, rfl, rfl, rfl, rfl, rfl⟩ := h
            simp only [Bool.and_eq_true, beq_iff_eq, Nat.blt_eq] at hq
            obtain ⟨rfl, hbl⟩ := hq
            have hlt : o < L.length := (List.getElem?_eq_some_iff.mp hL).1
            have he : (wl0 tc B L)[o]? = some (B + o, .inr (a, (List.range (nf a)).map fun j => fv0 B (ft a j) (fs.getD j 0))) := by
              rw [wl0_get hL]
              unfold encE
              dsimp only
              rw [show 5 + a = a + 5 by omega]
            have hset : (wl0 tc B L).set o (B + o, .inr (a, ((List.range (nf a)).map fun j => fv0 B (ft a j) (fs.getD j 0)).set b (enc (fun k => B + k) v))) = wl0 tc B (L.set o (5 + a, N9, fs.set b x)) := by
              rw [← wl0_set hlt, ← vnum_fv (B := B) hv, ← w4, ← fv_set w3 hbl]
              unfold encE
              dsimp only
              rw [show 5 + a = a + 5 by omega]
            have hfit : narrow (ty0 b) (enc (fun k => B + k) v) = enc (fun k => B + k) v ∧ fits (ty0 b) (enc (fun k => B + k) v) = true := by
              rcases w10 with ⟨hd, ht⟩ | ⟨hd, ht⟩ | ⟨hd, ht⟩
              · subst hd
                match v, hv with
                | .int y, _ => rw [ht]; exact ⟨rfl, rfl⟩
              · subst hd
                match v, hv with
                | .long y, _ => rw [ht]; exact ⟨rfl, rfl⟩
              · subst hd
                match v, hv with
                | .ref y, _ =>
                  rcases ht with ⟨n, ht⟩ | ⟨t, ht⟩
                  · rw [ht]; exact ⟨rfl, rfl⟩
                  · rw [ht]; exact ⟨rfl, rfl⟩
            have fin : ∀ (H1 : Heap) (locs1 : List Loc), va_P D cl ((wl0 tc B L).set o (B + o, .inr (a, ((List.range (nf a)).map fun j => fv0 B (ft a j) (fs.getD j 0)).set b (enc (fun k => B + k) v)))) H1 → H1.size = H.size → va_S (fun q => B ≤ q) s.heap H1 locs1 → W p l e R s m args below meth c H1 locs1 (c0 + 0) (s0 + 0) Qs (F0 m (pc + 3) ls (est (fun k => B + k) r)) := fun H1 locs1 hP1 hz1 hS1 => by
              rw [hset] at hP1
              exact kk H1 locs1 ls hl hP1 (by rw [hz1, hz]; simp) hS1
            exact c_put hx hb hts hown hK w1 w3 w5 w6 w7 w8 w9 hname hP hD hS he hfit.1 hfit.2 (by simpa using w3) hdec fin
        · cases h
      · cases h
  | getfield idx =>
    obtain ⟨rfl, C, T, N, ty0, w1, rfl, w3, w4, w5, w6, w7, w8, -⟩ := hok
    match st, h with
    | .ref o :: r, h =>
      simp only [exec0] at h
      split at h
      · rename_i kd N9 fs hL
        cases hq : ((kd == 5 + a) && (d == 2) && !(decide (fs.getD b 0 < 0))) with
        | false => rw [hq] at h; cases h
        | true =>
          rw [hq] at h
          simp only [cond_true, Option.some.injEq, Prod.mk.injEq] at h
          obtain ⟨rfl, rfl, rfl, rfl, rfl, rfl⟩ := h
          simp only [Bool.and_eq_true, beq_iff_eq, Bool.not_eq_true', decide_eq_false_iff_not] at hq
          obtain ⟨⟨rfl, hd2⟩, hneg⟩ := hq
          have he : (wl0 tc B L)[o]? = some (B + o, .inr (a, (List.range (nf a)).map fun j => fv0 B (ft a j) (fs.getD j 0))) := by
            rw [wl0_get hL]
            unfold encE
            dsimp only
            rw [show 5 + a = a + 5 by omega]
          have hv : ((List.range (nf a)).map fun j => fv0 B (ft a j) (fs.getD j 0))[b]? = some (.ref (B + (fs.getD b 0).toNat)) := by
            rw [List.getElem?_map, List.getElem?_range w3]
            show some (fv0 B (ft a b) (fs.getD b 0)) = _
            rw [w4, hd2, fv0_r B hneg]
          exact va_get hx hb hts w5 hown hK hP o he w1 b w3 (hts _ w6) (fun _ h9 => h9) hv hdec (kk H locs ls hl hP hz hS)
      · cases h
  | iastore =>
    obtain rfl : len = 1 := hok
    match st, h with
    | .int x :: .int i :: .ref o :: r, h =>
      simp only [exec0] at h
      split at h
      · rename_i kd N9 fs hL
        cases hq : ((kd == 0) && !(decide (i < 0)) && Nat.blt i.toNatClampNeg N9 && Nat.blt i.toNatClampNeg fs.length) with
        | false => rw [hq] at h; cases h
        | true =>
          rw [hq] at h
          simp only [cond_true, Option.some.injEq, Prod.mk.injEq] at h
          obtain ⟨rfl, rfl, rfl, rfl, rfl, rfl⟩ := h
          simp only [Bool.and_eq_true, beq_iff_eq, Bool.not_eq_true', decide_eq_false_iff_not, Nat.blt_eq] at hq
          obtain ⟨⟨⟨rfl, hneg⟩, h9⟩, hlen⟩ := hq
          have hlt : o < L.length := (List.getElem?_eq_some_iff.mp hL).1
          have he : (wl0 tc B L)[o]? = some (B + o, .inl (tc 0, N9, .inl fun j => Int32.ofInt (fs.getD j 0))) := wl0_get hL
          have hin9 : vp_in i N9 := fun q => by
            rcases q with q | q
            · exact hneg q
            · omega
          refine W.iast hx hb (hP o _ he) ((hK.2 0 _ rfl).1 N9 (fun j => .int (Int32.ofInt (fs.getD j 0)))) (fun q => by cases q) (by show ¬ (i < 0 ∨ (arrV _ _ _).slots.size ≤ _); rw [arrV_size]; exact hin9) rfl rfl hdec fun H1 e1 z1 oq => ?_
          refine kk H1 _ ls hl ?_ (by rw [z1, hz]; simp) (hS.put z1 oq (by show B ≤ B + o; omega))
          have hset : (wl0 tc B L).set o (B + o, .inl (tc 0, N9, .inl (upd (fun j => Int32.ofInt (fs.getD j 0)) i.toNatClampNeg x))) = wl0 tc B (L.set o (0, N9, fs.set i.toNatClampNeg x.toInt)) := by
            rw [← wl0_set hlt, upd_set hlen]
            rfl
          rw [← hset]
          refine hP.set hD he ?_ oq
          show H1[B + o]? = some (vp_cell _ _)
          rw [e1]
          rw [vp_cell_i, vp_cell_i, arrV_store]
          congr 2
          funext q
          by_cases hq : q = i.toNatClampNeg
          · subst hq
            simp [updV, upd]
          · simp [updV, upd, hq]
      · cases h
  | return_ => simp [exec0] at h
  | invokespecial idx =>
    obtain ⟨rfl, hw, -⟩ := hok
    simp only [exec0] at h
    cases hd5 : (d == 5) with
    | false => rw [hd5] at h; cases h
    | true =>
      rw [hd5] at h
      obtain ⟨w1, w2, w3⟩ := hw (by simpa using hd5)
      match st, h with
      | .ref o :: r, h =>
        cases hq : (Nat.ble (r.map fun v => v.category).sum 8) with
        | false => simp only [cond_true] at h; rw [hq] at h; cases h
        | true =>
          simp only [cond_true] at h
          rw [hq] at h
          simp only [cond_true, Option.some.injEq, Prod.mk.injEq] at h
          obtain ⟨rfl, rfl, rfl, rfl, rfl, rfl⟩ := h
          have h8 := Nat.le_of_ble_eq_true hq
          refine W.objInit hx hb hown (hts _ w1) (hts _ w2) (hts _ w3) rfl (hl.1.trans hml.symm) (a := B + o) (rest := est (fun k => B + k) r) rfl hdec hRm.1 ?_ (kk H locs ls hl hP hz hS)
          have hc := est_cat (fun k => B + k) r
          have := hRm.2
          show 2 * 0 + ((est (fun k => B + k) r).map fun v => v.category).sum + 12 ≤ R.locals
          rw [hc]
          omega
  | _ => exact hok.elim
end CTR3
/-! calls of constructors; the run -/
def rmC (d mc ms : Nat) : Room := { frames := d, cells := mc, slots := ms, locals := 64 * d }
def Pc0 (D : va_G) (tc : Nat → ClassId) (B : Nat) (as : List Value) (L : List E0) : Array Value → State → Prop := va_Pc (est (fun k => B + k) as) (fun U => va_P D cl (wl0 tc B L) U.heap ∧ U.heap.size = B + L.length ∧ va_K D cl (tys tc) U ∧ Nst U ∧ Ovr U)
def Qc0 (D : va_G) (tc : Nat → ClassId) (B : Nat) (L : List E0) : Array Value → State → Outcome → State → Prop := fun _ st oc t => (oc = .returned none ∧ va_P D cl (wl0 tc B L) t.heap ∧ t.heap.size = B + L.length) ∧ va_F (fun q => B ≤ q) st t
def MetC (M : Nat → MI) (l : Launch) (D : va_G) (tc : Nat → ClassId) (B d cid : Nat) (as : List Value) (L L2 : List E0) (mc ms : Nat) : Prop :=
  Met l (M cid).1 (Cond.code (M cid).1 (M cid).2.1 (M cid).2.2.1 (M cid).2.2.2 :: TB) (rmC d mc ms) (Pc0 D tc B as L) (Qc0 D tc B L2) mc ms (fun q => B ≤ q)
theorem Ovr.same {u U : State} (hvm : u.vm = U.vm) (h : Ovr u) : Ovr U := by
  constructor
  · have := h.1
    simp only [Cond.before, Cond.holds, Cond.value] at this ⊢
    rw [← hvm]
    exact this
  · have := h.2
    simp only [Cond.before, Cond.holds, Cond.value] at this ⊢
    rw [← hvm]
    exact this
theorem Ovr1.spec {t : FieldType} {s : State} (h : (Cond.arrayOver (.array t)).before #[] s = true) :
    ∃ comp c k, s.vm.findClass (FieldType.array t).toString = some comp ∧ (s.vm.classes.findIdx? fun x => match x.kind with | .array component _ => component == comp | _ => false) = some c ∧ s.vm.classes[c]? = some k ∧ k.kind = .array comp (.array t) ∧
      s.vm.findClass ("[" ++ (FieldType.array t).toString) = some c := by
  simp only [Cond.before, Cond.holds, Cond.value, beq_iff_eq] at h
  cases hc : s.vm.findClass (FieldType.array t).toString with
  | none => simp [hc] at h
  | some comp =>
    simp only [hc, Option.bind_some, Option.bind_eq_some_iff, Option.map_eq_some_iff] at h
    obtain ⟨c, hi, k, hk, hb⟩ := h
    obtain ⟨hlt, hp, -⟩ := Array.findIdx?_eq_some_iff_getElem.mp hi
    have hkk : s.vm.classes[c] = k := (Array.getElem?_eq_some_iff.mp hk).2
    rw [hkk] at hp
    cases hkind : k.kind with
    | array component ty =>
      rw [hkind] at hb hp
      simp at hb hp
      exact ⟨comp, c, k, rfl, hi, hk, by rw [hkind, hp, hb.1], hb.2⟩
    | _ => rw [hkind] at hb; simp at hb
theorem Ovr1.moved {t : FieldType} {u U : State} (hvm : u.vm.Alike U.vm) (h : (Cond.arrayOver (.array t)).before #[] u = true) : (Cond.arrayOver (.array t)).before #[] U = true := by
  obtain ⟨comp, c, k, h1, h2, h3, h4, h5⟩ := Ovr1.spec h
  obtain ⟨k', hk', he⟩ := hvm.2.2 _ _ h3
  have hi : (U.vm.classes.findIdx? fun (x : Class) => match x.kind with | .array component _ => component == comp | _ => false) = some c := by
    have e1 := va_idx_bare U.vm comp
    have e2 := va_idx_bare u.vm comp
    rw [hvm.bare_eq] at e1
    exact (e1.symm.trans e2).trans h2
  have hkind : k'.kind = .array comp (.array t) := by rw [he]; exact h4
  have f1 : U.vm.findClass (FieldType.array t).toString = some comp := by rw [hvm.findClass]; exact h1
  have f2 : U.vm.findClass ("[" ++ (FieldType.array t).toString) = some c := by rw [hvm.findClass]; exact h5
  unfold Cond.before Cond.holds
  simp only [Cond.value]
  rw [f1, Option.bind_some]
  refine (congrArg (fun o : Option Nat => (o.bind (fun c => (U.vm.classes[c]?).map fun (k : Class) => match k.kind with | .array _ ty => decide (ty = FieldType.array t) && decide (U.vm.findClass ("[" ++ (FieldType.array t).toString) = some c) | _ => false) == some true)) hi).trans ?_
  simp [hk', hkind, f2]
theorem Ovr.moved {u U : State} (hvm : u.vm.Alike U.vm) (h : Ovr u) : Ovr U := ⟨Ovr1.moved hvm h.1, Ovr1.moved hvm h.2⟩
theorem Pc0.blind (D : va_G) (tc : Nat → ClassId) (B : Nat) (as : List Value) (L : List E0) : FrameBlind (Pc0 D tc B as L) := fun a U g mk q => by
  obtain ⟨q0, q1, q2, q3, q4, q5⟩ := q
  exact ⟨q0, q1, q2, va_K.moved (u := U) (U := U.calling g mk a) (Vm.Alike.refl U.vm) q3, Nst.same (u := U) (U := U.calling g mk a) rfl q4, Ovr.moved (u := U) (U := U.calling g mk a) (Vm.Alike.refl U.vm) q5⟩
section CTR4
variable {p : Program} {l : Launch} {e : Env} {R : Room} {s : State} {m : MethodId} {args : Array Value} {below : List Frame} {meth : Method} {c : Code} {Qs : State → Prop}
variable {D : va_G} {tc : Nat → ClassId} {B : Nat} {own : String} {cc : ByteArray} {nL : Nat} {M : Nat → MI}
theorem runC_ok {H : Heap} {locs : List Loc} {cells slots mc ms pc : Nat} {ls : Array Slot} {st0 r : List Value} {L2 : List E0} {a : Array Value} (hr : va_Run p l e R s m args below meth c H locs cells slots mc ms (F0 m pc ls st0) (est (fun k => B + k) r) (Qc0 D tc B L2 a) (fun q => B ≤ q)) (hS : va_S (fun q => B ≤ q) s.heap H locs)
    (kk : ∀ (H1 : Heap) (locs1 : List Loc), va_P D cl (wl0 tc B L2) H1 → H1.size = B + L2.length → va_S (fun q => B ≤ q) s.heap H1 locs1 → W p l e R s m args below meth c H1 locs1 (cells + mc) (slots + ms) Qs (F0 m (pc + 3) ls (est (fun k => B + k) r))) : W p l e R s m args below meth c H locs cells slots Qs (F0 m pc ls st0) := by
  intro T hT X
  obtain ⟨v, st₀, t, T', L, h0, X', hL, e1, e2, ⟨⟨hv, hP, hz⟩, hzz, hk⟩, st⟩ := hr T hT X
  cases hv
  rw [h0] at hzz hk
  have k1 := kk T'.heap (locs ++ L) (by rw [e1]; exact hP) (by rw [e1]; exact hz) ⟨Nat.le_trans hS.1 (by rw [e1]; exact hzz), fun q h1 h2 => by rw [e1, hk q (Nat.lt_of_lt_of_le h1 hS.1) h2]; exact hS.2.1 q h1 h2, fun q hq => by
      rcases List.mem_append.mp hq with h | h
      · exact hS.2.2 q h
      · exact hL q h⟩
  obtain ⟨t2, a1, b1⟩ := k1 T' rfl X'
  exact ⟨t2, st t2 a1, b1⟩
theorem callC_W (F : Fy p R s m args meth c D tc own cc nL) {en : Ent} {idx : Nat} (hin : en.2.1 = .invokespecial idx) (hdec : decode cc en.1 = .ok (.invokespecial idx, 3)) (hini : Ini0OK own idx (M en.2.2.2.1) en.2.2.2.2.1) {H : Heap} {locs : List Loc} {ls : Array Slot} {st as r : List Value} {o : Nat} {L L2 : List E0} {d0 c0 s0 mc ms : Nat} (hpop : popn en.2.2.2.2.1 [] st = some (as, .ref o :: r)) (h8 : (r.map fun v => v.category).sum ≤ 8) (hM : MetC M l D tc B d0 en.2.2.2.1 (.ref o :: as) L L2 mc ms) (hd : d0 + 1 ≤ R.frames ∧ 64 * (d0 + 1) ≤ R.locals) (hbud : c0 + mc ≤ R.cells ∧ s0 + ms ≤ R.slots)
    (hls : ls.size = nL) (hP : va_P D cl (wl0 tc B L) H) (hz : H.size = B + L.length) (hS : va_S (fun q => B ≤ q) s.heap H locs)
    (kk : ∀ (H1 : Heap) (locs1 : List Loc), va_P D cl (wl0 tc B L2) H1 → H1.size = B + L2.length → va_S (fun q => B ≤ q) s.heap H1 locs1 → W p l e R s m args below meth c H1 locs1 (c0 + mc) (s0 + ms) Qs (F0 m (en.1 + 3) ls (est (fun k => B + k) r))) : W p l e R s m args below meth c H locs c0 s0 Qs (F0 m en.1 ls (est (fun k => B + k) st)) := by
  obtain ⟨hx, hb, hml, hown, hts, hK, ⟨hNs, hov⟩, hRm⟩ := F
  obtain ⟨pc, ins, len, a, b, d, zs⟩ := en
  dsimp only at hin hdec hini hpop hM kk ⊢
  obtain ⟨⟨w0, wr, wn⟩, w1, w2, w3, w4, w5, w6⟩ := hini
  obtain ⟨e1, rfl⟩ := popn_nil hpop
  have hpre : ∀ U : State, U.heap = H → s.WarmedH U.vm → va_P D cl (wl0 tc B L) U.heap ∧ U.heap.size = B + L.length ∧ va_K D cl (tys tc) U ∧ Nst U ∧ Ovr U := fun U hU hW => ⟨by rw [hU]; exact hP, by rw [hU]; exact hz, va_K.moved hW.alike hK, Nst.warm hW hNs, Ovr.moved hW.alike hov⟩
  have hlo : 8 + ((M a).2.2.1 + 11) + (rmC d0 mc ms).locals ≤ R.locals := by
    show 8 + ((M a).2.2.1 + 11) + 64 * d0 ≤ R.locals
    omega
  have hst0 : est (fun k => B + k) (as.reverse ++ .ref o :: r) = (est (fun k => B + k) as).reverse ++ .ref (B + o) :: est (fun k => B + k) r := by simp [est, enc]
  unfold MetC at hM
  rw [wr] at hM w1
  rcases w5 with w5 | ⟨host, w5⟩
  · exact runC_ok (va_runI (As := est (fun k => B + k) as) (rest := est (fun k => B + k) r) (n := b) ⟨hx, hb, hml, hown, hts⟩ hM ⟨callB_of b hts (tb_goodIn w1) rfl rfl rfl (hts _ w2) (hts _ w5) ⟨w3.1, w3.2, w4⟩ ⟨hd.1, hlo⟩, wn, hts _ w6⟩ ⟨Pc0.blind _ _ _ _ _, fun U hU hW => ⟨rfl, hpre U hU hW⟩⟩ rfl (by simpa [est] using e1) hls hst0 (lv_room (by rw [est_cat]; exact h8)) hdec hbud) hS kk
  · exact runC_ok (va_runIN (As := est (fun k => B + k) as) (rest := est (fun k => B + k) r) (n := b) (host := host) ⟨hx, hb, hml, hown, hts⟩ hM ⟨va_cnB b hts (tb_goodIn w1) rfl rfl rfl (hNs _ w5 rfl) (hts _ w2) ⟨w3.1, w3.2, w4⟩ ⟨hd.1, hlo⟩, wn, hts _ w6⟩ ⟨Pc0.blind _ _ _ _ _, fun U hU hW => ⟨rfl, hpre U hU hW⟩⟩ rfl (by simpa [est] using e1) hls hst0 (lv_room (by rw [est_cat]; exact h8)) hdec hbud) hS kk
theorem callC_ok (F : Fy p R s m args meth c D tc own cc nL) {en : Ent} {idx : Nat} (hin : en.2.1 = .invokespecial idx) (hdec : decode cc en.1 = .ok (.invokespecial idx, 3)) (hini : Ini0OK own idx (M en.2.2.2.1) en.2.2.2.2.1) {lv : LV} {st as r : List Value} {o : Nat} {L L2 : List E0} {d0 c0 s0 mc ms : Nat} (hpop : popn en.2.2.2.2.1 [] st = some (as, .ref o :: r)) (h8 : (r.map fun v => v.category).sum ≤ 8) (hM : MetC M l D tc B d0 en.2.2.2.1 (.ref o :: as) L L2 mc ms) (hd : d0 + 1 ≤ R.frames ∧ 64 * (d0 + 1) ≤ R.locals) (hbud : c0 + mc ≤ R.cells ∧ s0 + ms ≤ R.slots)
    (kk : Wk0 p l e R s m args below meth c Qs D tc B nL (en.1 + 3, lv, r, L2, c0 + mc, s0 + ms)) : Wk0 p l e R s m args below meth c Qs D tc B nL (en.1, lv, st, L, c0, s0) :=
  fun H locs ls hl hP hz hS => callC_W F hin hdec hini hpop h8 hM hd hbud hl.1 hP hz hS (fun H1 locs1 a b c => kk H1 locs1 ls hl a b c)
end CTR4
abbrev EnvC : Type := Nat → List Value → List E0 → Option (List E0 × Nat × Nat)
def stepC (G : EnvC) (en : Ent) (lv : LV) (st : List Value) (L : List E0) : Option PS0 := match en.2.1 with
  | .invokespecial _ => bif en.2.2.2.2.2.1 == 6 then (match popn en.2.2.2.2.1 [] st with
      | some (as, .ref o :: r) => bif Nat.ble (r.map fun v => v.category).sum 8 then (match G en.2.2.2.1 (.ref o :: as) L with
        | some (L2, mc, ms) => some (en.1 + 3, lv, r, L2, mc, ms)
        | none => none) else none
      | _ => none) else exec0 en lv st L
  | _ => exec0 en lv st L
def runC (G : EnvC) (cs : List Ent) : Nat → PS0 → Option (List E0 × Nat × Nat)
  | 0, _ => none
  | f + 1, (pc, lv, st, L, c0, s0) => match cs.find? (fun e => e.1 == pc) with
    | none => none
    | some en => match en.2.1, st with
      | .return_, [] => some (L, c0, s0)
      | _, _ => match stepC G en lv st L with
        | some (pc2, lv2, st2, L2, dc, ds) => runC G cs f (pc2, lv2, st2, L2, c0 + dc, s0 + ds)
        | none => none
def evC (M : Nat → MI) (C : Nat → List Ent) : Nat → EnvC
  | 0 => fun _ _ _ => none
  | d + 1 => fun cid as L => bif Nat.ble (lg_sl as).length (M cid).2.2.1 then runC (evC M C d) (C cid) 2000 (0, lv_args 0 as, [], L, 0, 0) else none
theorem runC_le {G : EnvC} {cs : List Ent} : ∀ (f : Nat) (q : PS0) (L2 : List E0) (mc ms : Nat), runC G cs f q = some (L2, mc, ms) → q.2.2.2.2.1 ≤ mc ∧ q.2.2.2.2.2 ≤ ms
  | 0, _, _, _, _, h => by cases h
  | f + 1, (pc, lv, st, L, c0, s0), L2, mc, ms, h => by
    simp only [runC] at h
    split at h
    · cases h
    · split at h
      · simp only [Option.some.injEq, Prod.mk.injEq] at h
        obtain ⟨-, rfl, rfl⟩ := h
        exact ⟨Nat.le_refl _, Nat.le_refl _⟩
      · split at h
        · have := runC_le f _ _ _ _ h
          dsimp only at this ⊢
          omega
        · cases h
section CTR5
variable {p : Program} {l : Launch} {e : Env} {R : Room} {s : State} {m : MethodId} {args : Array Value} {below : List Frame} {meth : Method} {c : Code} {Qs : State → Prop}
variable {D : va_G} {tc : Nat → ClassId} {B : Nat} {own : String} {cc : ByteArray} {nL : Nat} {M : Nat → MI}
theorem stepC_ok (F : Fy p R s m args meth c D tc own cc nL) (hB : B ≤ s.heap.size) {G : EnvC} {d0 : Nat} (hd : d0 + 1 ≤ R.frames ∧ 64 * (d0 + 1) ≤ R.locals) (hG : ∀ cid as L L2 mc ms, G cid as L = some (L2, mc, ms) → MetC M l D tc B d0 cid as L L2 mc ms) {en : Ent} (hok : Ent0OK M own cc nL en) (hpf : (∃ idx, en.2.1 = .putfield idx) → meth.name = "<init>") {lv : LV} {st : List Value} {L : List E0} {pc2 : Nat} {lv2 : LV} {st2 : List Value} {L2 : List E0} {dc ds c0 s0 : Nat} (h : stepC G en lv st L = some (pc2, lv2, st2, L2, dc, ds)) (hr : c0 + dc ≤ R.cells ∧ s0 + ds ≤ R.slots)
    (kk : Wk0 p l e R s m args below meth c Qs D tc B nL (pc2, lv2, st2, L2, c0 + dc, s0 + ds)) : Wk0 p l e R s m args below meth c Qs D tc B nL (en.1, lv, st, L, c0, s0) := by
  have base : exec0 en lv st L = some (pc2, lv2, st2, L2, dc, ds) → Wk0 p l e R s m args below meth c Qs D tc B nL (en.1, lv, st, L, c0, s0) := fun h => exec0_ok F hB (Or.inr trivial) hok hpf h hr kk
  cases hins : en.2.1 with
  | invokespecial idx =>
    unfold stepC at h
    rw [hins] at h
    cases hd6 : (en.2.2.2.2.2.1 == 6) with
    | false => simp only [hd6, cond_false] at h; exact base h
    | true =>
      simp only [hd6, cond_true] at h
      split at h
      · rename_i as o r hp
        cases h8 : (Nat.ble (r.map fun v => v.category).sum 8) with
        | false => rw [h8] at h; cases h
        | true =>
          rw [h8] at h
          simp only [cond_true] at h
          split at h
          · rename_i L3 mc ms hg
            simp only [Option.some.injEq, Prod.mk.injEq] at h
            obtain ⟨rfl, rfl, rfl, rfl, rfl, rfl⟩ := h
            obtain ⟨pc, ins, len, a, b, d, zs⟩ := en
            dsimp only at hins hd6 hp hg
            subst hins
            obtain ⟨hdec, hlen, -, hw⟩ := hok
            dsimp only at hdec hlen hw
            subst hlen
            exact callC_ok F (en := (pc, .invokespecial idx, 3, a, b, d, zs)) rfl hdec (hw (by simpa using hd6)) hp (Nat.le_of_ble_eq_true h8) (hG _ _ _ _ _ _ hg) hd hr kk
          · cases h
      · cases h
  | _ => unfold stepC at h; rw [hins] at h; exact base h
theorem runC_sound (F : Fy p R s m args meth c D tc own cc nL) (hB : B ≤ s.heap.size) {G : EnvC} {d0 : Nat} (hd : d0 + 1 ≤ R.frames ∧ 64 * (d0 + 1) ≤ R.locals) (hG : ∀ cid as L L2 mc ms, G cid as L = some (L2, mc, ms) → MetC M l D tc B d0 cid as L L2 mc ms) {cs : List Ent} (hcs : ∀ en ∈ cs, Ent0OK M own cc nL en) (hname : meth.name = "<init>") {L2 : List E0} {mc ms : Nat} (hbud : mc ≤ R.cells ∧ ms ≤ R.slots)
    (hret : ∀ (pc : Nat) (lv : LV), decode cc pc = .ok (.return_, 1) → Wk0 p l e R s m args below meth c Qs D tc B nL (pc, lv, [], L2, mc, ms)) :
    ∀ (f : Nat) (q : PS0), runC G cs f q = some (L2, mc, ms) → Wk0 p l e R s m args below meth c Qs D tc B nL q
  | 0, _, h => by cases h
  | f + 1, (pc, lv, st, L, c0, s0), h => by
    have h0 := h
    simp only [runC] at h
    split at h
    · cases h
    · rename_i en hf
      have hmem : en ∈ cs := List.mem_of_find?_eq_some hf
      have hpc : en.1 = pc := by have := List.find?_some hf; simpa using this
      split at h
      · rename_i hins
        simp only [Option.some.injEq, Prod.mk.injEq] at h
        obtain ⟨rfl, rfl, rfl⟩ := h
        obtain ⟨hdec, hok⟩ := hcs en hmem
        rw [← hpc]
        obtain ⟨pc9, ins, len, a, b, d, zs⟩ := en
        dsimp only at hins hdec hok ⊢
        subst hins
        obtain rfl : len = 1 := hok
        exact hret pc9 lv hdec
      · split at h
        · rename_i pc2 lv2 st2 L3 dc ds hs
          have hle := runC_le f _ _ _ _ h
          dsimp only at hle
          rw [← hpc]
          exact stepC_ok F hB hd hG (hcs en hmem) (fun _ => hname) hs ⟨by omega, by omega⟩ (runC_sound F hB hd hG hcs hname hbud hret f _ h)
        · cases h
end CTR5
theorem evC_ok {M : Nat → MI} {C : Nat → List Ent} (hall : ∀ cid, C cid ≠ [] → plainName (M cid).1.cls = true ∧ (M cid).2.2.2 = none ∧ (M cid).1.name = "<init>" ∧ ∀ en ∈ C cid, Ent0OK M (M cid).1.cls (M cid).2.1 (M cid).2.2.1 en) (l : Launch) (D : va_G) (tc : Nat → ClassId) (B : Nat) :
    ∀ (d cid : Nat) (as : List Value) (L L2 : List E0) (mc ms : Nat), evC M C d cid as L = some (L2, mc, ms) → MetC M l D tc B d cid as L L2 mc ms := by
  intro d
  induction d with
  | zero => intro cid as L L2 mc ms h; cases h
  | succ d ih =>
    intro cid as L L2 mc ms h
    simp only [evC] at h
    cases hb9 : (Nat.ble (lg_sl as).length (M cid).2.2.1) with
    | false => rw [hb9] at h; cases h
    | true =>
      rw [hb9] at h
      simp only [cond_true] at h
      have hlen := Nat.le_of_ble_eq_true hb9
      have hne : C cid ≠ [] := fun q => by
        rw [q] at h
        simp [runC] at h
      obtain ⟨hpl, hrn, hnm, hent⟩ := hall cid hne
      refine Met.ofW (cc := (M cid).2.1) (maxL := (M cid).2.2.1) (ret := (M cid).2.2.2) hpl rfl ?_
      intro p e s m args below meth c s₁ Bd hml hv
      obtain ⟨rfl, hP, hz, hK, hNs, hov⟩ := hv
      have hx := Bd.exec
      have hb := Bd.bytes
      have hrt := Bd.returns
      have hts := atoms_spec (ws := Cond.code (M cid).1 (M cid).2.1 (M cid).2.2.1 (M cid).2.2.2 :: TB) Bd.pre
      have hown : s.vm.findClass (M cid).1.cls = some m.cls := findClass_of_methodNamed Bd.named
      have hlocks := Bd.notSynchronized
      have hin : meth.name = "<init>" := (name_of_methodNamed Bd.named Bd.method).1.trans hnm
      have F : Fy p (rmC (d + 1) mc ms) s m (est (fun k => B + k) as).toArray meth c D tc (M cid).1.cls (M cid).2.1 (M cid).2.2.1 := ⟨hx, hb, hml, hown, fun w hw => hts w (List.mem_cons_of_mem _ hw), hK, ⟨hNs, hov⟩, ⟨by show 1 ≤ d + 1; omega, by show 64 ≤ 64 * (d + 1); omega⟩⟩
      have hl := lv_entry (est (fun k => B + k) as) (n := (M cid).2.2.1) (by rw [lg_sl_enc]; exact hlen)
      rw [lg_entry_eq]
      rw [lv_args_enc] at hl
      refine runC_sound F (by rw [hz]; omega) (d0 := d) ⟨Nat.le_refl _, Nat.le_refl _⟩ (fun cid as L L2 mc ms h => ih cid as L L2 mc ms h) hent hin (L2 := L2) (mc := mc) (ms := ms) ⟨Nat.le_refl _, Nat.le_refl _⟩ ?_ 2000 (0, lv_args 0 as, [], L, 0, 0) h s.heap [] _ hl hP hz va_S.rf
      intro pc lv hdec H locs ls hl2 hP2 hz2 hS2
      exact W.vret hx hb (hrt.trans hrn) (fun t ht hW => ⟨⟨rfl, by rw [ht]; exact hP2, by rw [ht]; exact hz2⟩, hS2.F ht⟩) hS2.2.2 hdec
