/-! ===== the constructors: cells made one behind the other, at addresses B, B + 1, .. ===== -/
abbrev E0 : Type := Nat × Nat × List Int
def dfl (c : Nat) : List Int := (List.range (nf c)).map fun j => bif ft c j == 2 then -1 else 0
def fv0 (B t : Nat) (x : Int) : Value := match t with
  | 1 => .long (Int64.ofInt x)
  | 2 => bif decide (x < 0) then .null else .ref (B + x.toNat)
  | _ => .int (Int32.ofInt x)
def dv (t : Nat) : Value := match t with
  | 1 => .long 0
  | 2 => .null
  | _ => .int 0
def encE (tc : Nat → ClassId) (B k : Nat) (e : E0) : va_E := match e.1 with
  | 0 => .inl (tc 0, e.2.1, .inl (fun j => Int32.ofInt (e.2.2.getD j 0)))
  | 1 => .inl (tc 1, e.2.1, .inr (.inl (fun j => Int64.ofInt (e.2.2.getD j 0))))
  | 2 => .inl (tc 2, e.2.1, .inl (fun j => Int32.ofInt (e.2.2.getD j 0)))
  | 3 => .inl (tc 3, e.2.1, .inr (.inr (.inr (.inr fun j => some (B + k + 1 + j)))))
  | 4 => .inl (tc 4, e.2.1, .inr (.inr (.inr (.inr fun j => some (B + k + 1 + j)))))
  | n + 5 => .inr (n, (List.range (nf n)).map fun j => fv0 B (ft n j) (e.2.2.getD j 0))
def wl0 (tc : Nat → ClassId) (B : Nat) (L : List E0) : va_W := (List.range L.length).map fun k => (B + k, encE tc B k (L.getD k (99, 0, [])))
theorem wl0_get {tc : Nat → ClassId} {B : Nat} {L : List E0} {k : Nat} {e : E0} (h : L[k]? = some e) : (wl0 tc B L)[k]? = some (B + k, encE tc B k e) := by
  have hk : k < L.length := (List.getElem?_eq_some_iff.mp h).1
  unfold wl0
  rw [List.getElem?_map, List.getElem?_range hk]
  simp [List.getD, h]
theorem wl0_len {tc : Nat → ClassId} {B : Nat} {L : List E0} : (wl0 tc B L).length = L.length := by simp [wl0]
theorem wl0_push {tc : Nat → ClassId} {B : Nat} {L : List E0} {e : E0} : wl0 tc B (L ++ [e]) = wl0 tc B L ++ [(B + L.length, encE tc B L.length e)] := by
  refine List.ext_getElem? fun i => ?_
  rcases Nat.lt_or_ge i L.length with q | q
  · obtain ⟨x, hx⟩ : ∃ x, L[i]? = some x := ⟨L[i], List.getElem?_eq_getElem q⟩
    rw [wl0_get (e := x) (by rw [List.getElem?_append_left q]; exact hx), List.getElem?_append_left (by rw [wl0_len]; exact q), wl0_get hx]
  · rw [List.getElem?_append_right (by rw [wl0_len]; exact q), wl0_len]
    rcases Nat.lt_or_ge L.length i with q2 | q2
    · rw [List.getElem?_eq_none (by rw [wl0_len]; simp; omega), List.getElem?_eq_none (by simp; omega)]
    · obtain rfl : i = L.length := by omega
      rw [wl0_get (e := e) (by simp)]
      simp
theorem wl0_set {tc : Nat → ClassId} {B : Nat} {L : List E0} {k : Nat} {e : E0} (h : k < L.length) : (wl0 tc B L).set k (B + k, encE tc B k e) = wl0 tc B (L.set k e) := by
  refine List.ext_getElem? fun i => ?_
  rw [List.getElem?_set]
  by_cases hk : k = i
  · subst hk
    rw [if_pos rfl, wl0_get (e := e) (by simp [h])]
    simp [wl0_len, h]
  · rw [if_neg hk]
    rcases Nat.lt_or_ge i L.length with q | q
    · obtain ⟨x, hx⟩ : ∃ x, L[i]? = some x := ⟨L[i], List.getElem?_eq_getElem q⟩
      rw [wl0_get hx, wl0_get (e := x) (by rw [List.getElem?_set_ne hk]; exact hx)]
    · rw [List.getElem?_eq_none (by rw [wl0_len]; exact q), List.getElem?_eq_none (by rw [wl0_len]; simpa using q)]
theorem wl0_D {tc : Nat → ClassId} {B : Nat} {L : List E0} : va_D (fun q => B ≤ q) (wl0 tc B L) := by
  have key : ∀ (i : Nat) (p : Nat × va_E), (wl0 tc B L)[i]? = some p → p.1 = B + i := by
    intro i p h
    have hl : i < L.length := by
      have := (List.getElem?_eq_some_iff.mp h).1
      rwa [wl0_len] at this
    obtain ⟨x, hx⟩ : ∃ x, L[i]? = some x := ⟨L[i], List.getElem?_eq_getElem hl⟩
    rw [wl0_get hx] at h
    cases h
    rfl
  refine ⟨fun i j p q hp hq e => ?_, fun k q hk => ?_⟩
  · have := key i p hp
    have := key j q hq
    omega
  · rw [key k q hk]
    exact Nat.le_add_right _ _
/-- arrays of arrays: their classes are there -/
def Ovr (U : State) : Prop := (Cond.arrayOver (.array .int)).before #[] U = true ∧ (Cond.arrayOver (.array .long)).before #[] U = true
section CTR
variable {p : Program} {l : Launch} {e : Env} {R : Room} {s : State} {m : MethodId} {args : Array Value} {below : List Frame} {meth : Method} {c : Code} {H : Heap} {locs : List Loc} {cells slots : Nat} {Qs : State → Prop}
variable {D : va_G} {tc : Nat → ClassId} {B : Nat} {own : String} {cc : ByteArray} {nL : Nat} {L : List E0} {pc : Nat} {ls : Array Slot} {rest : List Value}
theorem c_new (hx : p.tables.exec = Jvm.exec) (hb : c.code = cc) (hts : ∀ w ∈ TB, w.before args s = true) (hown : s.vm.findClass own = some m.cls) (hK : va_K D cl (tys tc) s) {C : String} {T : u_T} {ci idx : Nat} {ty : Nat → FieldType} (hc : cl[ci]? = some (C, T, nf ci)) (hin : ∀ w ∈ u_ws C T (nf ci), w ∈ TB) (hty : ∀ k, k < nf ci → parseFieldDescriptor (T k).2.2.1 = some (ty k)) (hdef : ∀ k, k < nf ci → defaultValue (ty k) = dv (ft ci k)) (hcl : Cond.classLink own idx C ∈ TB) (hinst : Cond.instantiable C (nf ci) ∈ TB) (hini : Cond.initialized C ∈ TB)
    (hP : va_P D cl (wl0 tc B L) H) (hz : H.size = B + L.length) (hS : va_S (fun q => B ≤ q) s.heap H locs) (hcells : cells + 1 ≤ R.cells) (hslots : slots + nf ci ≤ R.slots) (hdg : decode cc pc = .ok (.new idx, 3))
    (kk : ∀ H1 : Heap, va_P D cl (wl0 tc B (L ++ [(5 + ci, nf ci, dfl ci)])) H1 → H1.size = B + (L ++ [((5 + ci, nf ci, dfl ci) : E0)]).length → va_S (fun q => B ≤ q) s.heap H1 locs → W p l e R s m args below meth c H1 locs (cells + 1) (slots + nf ci) Qs (F0 m (pc + 3) ls (.ref (B + L.length) :: rest))) : W p l e R s m args below meth c H locs cells slots Qs (F0 m pc ls rest) := by
  have hKn := hK.1 ci _ hc
  refine W.newcK hx hb hown (hts _ hcl) (hts _ hinst) (hts _ hini) rfl hdg hcells hslots hKn.2.1 hz fun H1 kC hkC e1 z1 o1 => ?_
  have hk : ∀ (k : Nat) (x : Nat × va_E), (wl0 tc B L)[k]? = some x → H1[x.1]? = H[x.1]? := fun k x hx => o1 x.1 (by rw [← hz]; exact (hP k x hx).lt)
  refine kk H1 ?_ (by rw [z1]; simp; omega) ⟨Nat.le_trans hS.1 (by omega), fun x h1 h2 => (o1 x (by rw [← hz]; exact Nat.lt_of_lt_of_le h1 hS.1)).trans (hS.2.1 x h1 h2), hS.2.2⟩
  rw [wl0_push]
  refine (hP.kept hk).app (fun k x hx => ?_)
  have hz0 : k < 1 := (List.getElem?_eq_some_iff.mp hx).1
  rw [show k = 0 by omega] at hx
  cases hx
  show va_at D cl (B + L.length, encE tc B L.length (5 + ci, nf ci, dfl ci)) H1
  unfold encE
  dsimp only
  rw [show 5 + ci = ci + 5 by omega]
  dsimp only [va_at]
  refine ⟨_, hc, (u_born ty hts hin hKn hkC e1 hty).to fun j hj => ?_⟩
  rw [hdef j hj]
  unfold vp_V dfl
  simp only [List.getD, List.getElem?_map, List.getElem?_range hj, Option.map_some, Option.getD_some]
  unfold fv0 dv
  cases h2 : (ft ci j == 2) with
  | true =>
    have e2 : ft ci j = 2 := by simpa using h2
    rw [e2]
    rfl
  | false =>
    have e2 : ft ci j ≠ 2 := by simpa using h2
    split
    · rfl
    · contradiction
    · rfl
theorem rep_getD (N j : Nat) : (List.replicate N (0 : Int)).getD j 0 = 0 := by
  unfold List.getD
  rcases Nat.lt_or_ge j N with q | q
  · rw [List.getElem?_replicate, if_pos q]
    rfl
  · rw [List.getElem?_eq_none (by simpa using q)]
    rfl
def dk : Nat → FieldType
  | 0 => .int
  | 1 => .long
  | _ => .boolean
theorem c_newa (hx : p.tables.exec = Jvm.exec) (hb : c.code = cc) (hts : ∀ w ∈ TB, w.before args s = true) (hK : va_K D cl (tys tc) s) {atype : ArrayType} {d : Nat} (hd : d < 3) (harr : Cond.arrayClass (newarray.typeOf atype) ∈ TB) (hty : newarray.typeOf atype = dk d) {n : Int32} (hn : ¬ n < 0) (hbytes : n.toNatClampNeg ≤ 2000)
    (hP : va_P D cl (wl0 tc B L) H) (hz : H.size = B + L.length) (hS : va_S (fun q => B ≤ q) s.heap H locs) (hcells : cells + 1 ≤ R.cells) (hslots : slots + n.toNatClampNeg ≤ R.slots) (hdg : decode cc pc = .ok (.newarray atype, 2))
    (kk : ∀ H1 : Heap, va_P D cl (wl0 tc B (L ++ [(d, n.toNatClampNeg, List.replicate n.toNatClampNeg 0)])) H1 → H1.size = B + (L ++ [((d, n.toNatClampNeg, List.replicate n.toNatClampNeg 0) : E0)]).length → va_S (fun q => B ≤ q) s.heap H1 locs → W p l e R s m args below meth c H1 locs (cells + 1) (slots + n.toNatClampNeg) Qs (F0 m (pc + 2) ls (.ref (B + L.length) :: rest))) : W p l e R s m args below meth c H locs cells slots Qs (F0 m pc ls (.int n :: rest)) := by
  have hcb : componentBytes (newarray.typeOf atype) ≤ 8 := by
    rw [hty]
    match d, hd with
    | 0, _ => decide
    | 1, _ => decide
    | 2, _ => decide
  refine va_newaK hx hb (hts _ harr) rfl hdg rfl hn rfl (Nat.le_trans (Nat.mul_le_mul hbytes hcb) (by decide)) hcells hslots hz fun H1 cA e1 z1 o1 hAr hNm => ?_
  have hk : ∀ (k : Nat) (x : Nat × va_E), (wl0 tc B L)[k]? = some x → H1[x.1]? = H[x.1]? := fun k x hx => o1 x.1 (by rw [← hz]; exact (hP k x hx).lt)
  refine kk H1 ?_ (by rw [z1]; simp; omega) ⟨Nat.le_trans hS.1 (by omega), fun x h1 h2 => (o1 x (by rw [← hz]; exact Nat.lt_of_lt_of_le h1 hS.1)).trans (hS.2.1 x h1 h2), hS.2.2⟩
  rw [wl0_push]
  refine (hP.kept hk).app (fun k x hx => ?_)
  have hz0 : k < 1 := (List.getElem?_eq_some_iff.mp hx).1
  rw [show k = 0 by omega] at hx
  cases hx
  rw [hty] at e1 hNm
  have hrep : ∀ j, (List.replicate n.toNatClampNeg (0 : Int)).getD j 0 = 0 := rep_getD _
  match d, hd with
  | 0, _ =>
    have h0 := (hK.2 0 _ rfl).2
    have ec : some (tc 0) = some cA := h0.symm.trans hNm
    cases ec
    show H1[B + L.length]? = some (vp_cell (tc 0) (n.toNatClampNeg, .inl fun j => Int32.ofInt ((List.replicate n.toNatClampNeg (0 : Int)).getD j 0)))
    rw [e1, vp_cell_i]
    simp only [hrep]
    rfl
  | 1, _ =>
    have h0 := (hK.2 1 _ rfl).2
    have ec : some (tc 1) = some cA := h0.symm.trans hNm
    cases ec
    show H1[B + L.length]? = some (vp_cell (tc 1) (n.toNatClampNeg, .inr (.inl fun j => Int64.ofInt ((List.replicate n.toNatClampNeg (0 : Int)).getD j 0))))
    rw [e1, vp_cell_l]
    simp only [hrep]
    rfl
  | 2, _ =>
    have h0 := (hK.2 2 _ rfl).2
    have ec : some (tc 2) = some cA := h0.symm.trans hNm
    cases ec
    show H1[B + L.length]? = some (vp_cell (tc 2) (n.toNatClampNeg, .inl fun j => Int32.ofInt ((List.replicate n.toNatClampNeg (0 : Int)).getD j 0)))
    rw [e1, vp_cell_i]
    simp only [hrep]
    rfl
end CTR
/-! multianewarray; fields; ints -/
section CTR2
variable {p : Program} {l : Launch} {e : Env} {R : Room} {s : State} {m : MethodId} {args : Array Value} {below : List Frame} {meth : Method} {c : Code} {H : Heap} {locs : List Loc} {cells slots : Nat} {Qs : State → Prop}
variable {D : va_G} {tc : Nat → ClassId} {B : Nat} {own : String} {cc : ByteArray} {nL : Nat} {L : List E0} {pc : Nat} {ls : Array Slot} {rest : List Value}
theorem outer_eq (c : ClassId) (N h0 : Nat) : ∀ i : Nat, Jvm.Free.Multi.outerC c N h0 i = arrV c N (fun j => va_rf (if j < i then some (h0 + 1 + j) else none))
  | 0 => by
    show ({ cls := c, slots := Array.replicate N .null, vm := .none } : Cell) = _
    rw [arrV_new]
    refine congrArg (arrV c N) (funext fun j => ?_)
    simp [va_rf]
  | i + 1 => by
    show (Jvm.Free.Multi.outerC c N h0 i).setSlot i (.ref (h0 + 1 + i)) = _
    rw [outer_eq c N h0 i, arrV_store]
    refine congrArg (arrV c N) (funext fun j => ?_)
    by_cases e : j = i
    · subst e
      simp [updV, va_rf]
    · by_cases h : j < i
      · simp [updV, e, h, Nat.lt_succ_of_lt h]
      · simp [updV, e, h, show ¬ j < i + 1 by omega]
theorem arrV_cong {c : ClassId} {N : Nat} {f g : Nat → Value} (h : ∀ j, j < N → f j = g j) : arrV c N f = arrV c N g := by
  unfold arrV
  congr 1
  apply Array.ext
  · simp
  · intro i h1 h2
    simp only [Array.getElem_ofFn]
    exact h i (by simpa using h1)
theorem wl0_app {tc : Nat → ClassId} {B : Nat} : ∀ (M L : List E0), wl0 tc B (L ++ M) = wl0 tc B L ++ (List.range M.length).map (fun j => (B + L.length + j, encE tc B (L.length + j) (M.getD j (99, 0, [])))) := by
  intro M L
  refine List.ext_getElem? fun i => ?_
  rcases Nat.lt_or_ge i L.length with q | q
  · obtain ⟨x, hx⟩ : ∃ x, L[i]? = some x := ⟨L[i], List.getElem?_eq_getElem q⟩
    rw [wl0_get (e := x) (by rw [List.getElem?_append_left q]; exact hx), List.getElem?_append_left (by rw [wl0_len]; exact q), wl0_get hx]
  · rw [List.getElem?_append_right (by rw [wl0_len]; exact q), wl0_len]
    rcases Nat.lt_or_ge i (L.length + M.length) with q2 | q2
    · obtain ⟨x, hx⟩ : ∃ x, M[i - L.length]? = some x := ⟨M[i - L.length]'(by omega), List.getElem?_eq_getElem (by omega)⟩
      rw [wl0_get (e := x) (by rw [List.getElem?_append_right q]; exact hx), List.getElem?_map, List.getElem?_range (by omega)]
      simp only [Option.map_some, List.getD, hx, Option.getD_some]
      rw [show B + L.length + (i - L.length) = B + i by omega, show L.length + (i - L.length) = i by omega]
    · rw [List.getElem?_eq_none (by rw [wl0_len]; simp; omega), List.getElem?_eq_none (by simp; omega)]
theorem c_mna (hx : p.tables.exec = Jvm.exec) (hb : c.code = cc) (hts : ∀ w ∈ TB, w.before args s = true) (hown : s.vm.findClass own = some m.cls) (hK : va_K D cl (tys tc) s) (hov : Ovr s) {d idx : Nat} (hd : d < 2) (hcl : Cond.classLink own idx ("[" ++ (FieldType.array (dk d)).toString) ∈ TB) (harr : Cond.arrayClass (dk d) ∈ TB) {n k : Int32} (hn : ¬ n < 0) (hk : ¬ k < 0) (hb1 : n.toNatClampNeg ≤ 2000) (hb2 : k.toNatClampNeg ≤ 2000)
    (hP : va_P D cl (wl0 tc B L) H) (hz : H.size = B + L.length) (hS : va_S (fun q => B ≤ q) s.heap H locs) (hcells : cells + (1 + n.toNatClampNeg) ≤ R.cells) (hslots : slots + (n.toNatClampNeg + n.toNatClampNeg * k.toNatClampNeg) ≤ R.slots) (hdg : decode cc pc = .ok (.multianewarray idx 2, 4))
    (kk : ∀ H1 : Heap, va_P D cl (wl0 tc B (L ++ ((3 + d, n.toNatClampNeg, []) :: List.replicate n.toNatClampNeg (d, k.toNatClampNeg, List.replicate k.toNatClampNeg 0)))) H1 → H1.size = B + (L ++ (((3 + d, n.toNatClampNeg, []) : E0) :: List.replicate n.toNatClampNeg (d, k.toNatClampNeg, List.replicate k.toNatClampNeg 0))).length → va_S (fun q => B ≤ q) s.heap H1 locs → W p l e R s m args below meth c H1 locs (cells + 1 + n.toNatClampNeg) (slots + n.toNatClampNeg + n.toNatClampNeg * k.toNatClampNeg) Qs (F0 m (pc + 4) ls (.ref (B + L.length) :: rest))) : W p l e R s m args below meth c H locs cells slots Qs (F0 m pc ls (.int k :: .int n :: rest)) := by
  have hcb : componentBytes (dk d) ≤ 8 := by
    match d, hd with
    | 0, _ => decide
    | 1, _ => decide
  have hover : (Cond.arrayOver (.array (dk d))).before args s = true := by
    match d, hd with
    | 0, _ => exact hov.1
    | 1, _ => exact hov.2
  intro T hT X
  obtain ⟨vm₁, cA, comp, -, fA, fC, hO, -, X', step⟩ := X.multianewarray2F hx hown (hts _ hcl) hover (hts _ harr) (g := F0 m pc ls (.int k :: .int n :: rest)) rfl (by rw [hb]; exact hdg) rfl hn hk (by omega) (Nat.le_trans (Nat.mul_le_mul hb2 hcb) (by decide)) (by omega) (by match d, hd with | 0, _ => rfl | 1, _ => rfl) (by match d, hd with | 0, _ => rfl | 1, _ => rfl) hcells hslots
  generalize hF : Jvm.Free.Multi.fill (T.setVm vm₁) cA comp n.toNatClampNeg k.toNatClampNeg (defaultValue (dk d)) n.toNatClampNeg = F at X' step
  have hTh : (T.setVm vm₁).heap = H := hT
  obtain ⟨f1, f2, -, -⟩ := Jvm.Free.Multi.fill_facts (T.setVm vm₁) cA comp n.toNatClampNeg k.toNatClampNeg (defaultValue (dk d)) n.toNatClampNeg
  rw [hF, hTh] at f1 f2
  have hold : ∀ x : Nat, x < H.size → F.heap[x]? = H[x]? := fun x hx => by
    have := Jvm.Free.Multi.fill_old (T.setVm vm₁) cA comp n.toNatClampNeg k.toNatClampNeg (defaultValue (dk d)) (a := x) (by rw [hTh]; exact hx) n.toNatClampNeg
    rw [hF, hTh] at this
    exact this
  have hrow : ∀ j : Nat, j < n.toNatClampNeg → F.heap[H.size + 1 + j]? = some (Jvm.Free.Multi.innerC comp k.toNatClampNeg (defaultValue (dk d))) := fun j hj => by
    have := Jvm.Free.Multi.fill_inner (T.setVm vm₁) cA comp n.toNatClampNeg k.toNatClampNeg (defaultValue (dk d)) n.toNatClampNeg j hj
    rw [hF, hTh] at this
    exact this
  rw [outer_eq] at f2
  have ecA : tc (3 + d) = cA := by
    match d, hd with
    | 0, _ => exact Option.some.inj ((hK.2 3 _ rfl).2.symm.trans fA)
    | 1, _ => exact Option.some.inj ((hK.2 4 _ rfl).2.symm.trans fA)
  have ecB : tc d = comp := by
    match d, hd with
    | 0, _ => exact Option.some.inj ((hK.2 0 _ rfl).2.symm.trans fC)
    | 1, _ => exact Option.some.inj ((hK.2 1 _ rfl).2.symm.trans fC)
  have hkp : ∀ (k9 : Nat) (x : Nat × va_E), (wl0 tc B L)[k9]? = some x → F.heap[x.1]? = H[x.1]? := fun k9 x hx => hold x.1 ((hP k9 x hx).lt)
  obtain ⟨t, a1, b1⟩ := kk F.heap (by
    rw [wl0_app]
    refine (hP.kept hkp).app (fun k9 x hx9 => ?_)
    rw [List.getElem?_map] at hx9
    rcases Nat.lt_or_ge k9 (n.toNatClampNeg + 1) with q | q
    · rw [List.getElem?_range (by simp; omega)] at hx9
      cases hx9
      cases k9 with
      | zero =>
        show va_at D cl (B + L.length + 0, encE tc B (L.length + 0) (3 + d, n.toNatClampNeg, [])) F.heap
        have hc : vp_cell (tc (3 + d)) (n.toNatClampNeg, .inr (.inr (.inr (.inr fun j => some (B + (L.length + 0) + 1 + j))))) = arrV cA n.toNatClampNeg (fun j => va_rf (if j < n.toNatClampNeg then some (H.size + 1 + j) else none)) := by
          rw [vp_cell_q, ecA]
          refine arrV_cong fun j hj => ?_
          rw [if_pos hj, hz]
          rfl
        have hh : F.heap[B + L.length + 0]? = some (vp_cell (tc (3 + d)) (n.toNatClampNeg, .inr (.inr (.inr (.inr fun j => some (B + (L.length + 0) + 1 + j)))))) := by
          rw [hc, ← f2, hz]
          rfl
        match d, hd, hh with
        | 0, _, hh => exact hh
        | 1, _, hh => exact hh
      | succ j =>
        have hj : j < n.toNatClampNeg := by omega
        have hg : (((3 + d, n.toNatClampNeg, []) : E0) :: List.replicate n.toNatClampNeg (d, k.toNatClampNeg, List.replicate k.toNatClampNeg 0)).getD (j + 1) (99, 0, []) = (d, k.toNatClampNeg, List.replicate k.toNatClampNeg 0) := by
          rw [List.getD_cons_succ]
          simp [List.getD, hj]
        show va_at D cl (B + L.length + (j + 1), encE tc B (L.length + (j + 1)) ((((3 + d, n.toNatClampNeg, []) : E0) :: List.replicate n.toNatClampNeg (d, k.toNatClampNeg, List.replicate k.toNatClampNeg 0)).getD (j + 1) (99, 0, []))) F.heap
        rw [hg]
        have hh := hrow j hj
        rw [hz, show B + L.length + 1 + j = B + L.length + (j + 1) by omega, ← ecB] at hh
        have hrep : ∀ j, (List.replicate k.toNatClampNeg (0 : Int)).getD j 0 = 0 := rep_getD _
        match d, hd, hh with
        | 0, _, hh =>
          show F.heap[B + L.length + (j + 1)]? = some (vp_cell (tc 0) (k.toNatClampNeg, .inl fun j => Int32.ofInt ((List.replicate k.toNatClampNeg (0 : Int)).getD j 0)))
          rw [hh, vp_cell_i]
          simp only [hrep]
          show some ({ cls := tc 0, slots := Array.replicate k.toNatClampNeg (.int 0), vm := .none } : Cell) = _
          rw [arrV_new]
          rfl
        | 1, _, hh =>
          show F.heap[B + L.length + (j + 1)]? = some (vp_cell (tc 1) (k.toNatClampNeg, .inr (.inl fun j => Int64.ofInt ((List.replicate k.toNatClampNeg (0 : Int)).getD j 0))))
          rw [hh, vp_cell_l]
          simp only [hrep]
          show some ({ cls := tc 1, slots := Array.replicate k.toNatClampNeg (.long 0), vm := .none } : Cell) = _
          rw [arrV_new]
          rfl
    · rw [List.getElem?_eq_none (by simp; omega)] at hx9
      cases hx9) (by rw [f1, hz]; simp; omega) ⟨by rw [f1]; have := hS.1; omega, fun x h1 h2 => (hold x (Nat.lt_of_lt_of_le h1 hS.1)).trans (hS.2.1 x h1 h2), hS.2.2⟩ F rfl X'
  refine ⟨t, step t ?_, b1⟩
  have e9 : T.heap.size = B + L.length := by rw [hT, hz]
  rw [e9]
  exact a1
end CTR2
