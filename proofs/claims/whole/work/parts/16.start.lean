/-! THE CLAIM OUT OF ONE WALK OF THE LAW'S BODY. Your part is whole_start (and what it stands on); all else here is the same for every law, but numbers. -/
def R_law : String := "PureGroupsLaw"
def lw_P (b : Addr) (xs : List Int32) (args : Array Value) (s : State) : Prop := args = #[.ref b] ∧ s.IntsAt b xs ∧ xs.length ≤ 2560 ∧ (Jvm.Cond.and given_1 narrow_1).before args s = true
def lw_Q (_ : Array Value) (s : State) (o : Outcome) (t : State) : Prop := o = .returned (some (.int 1)) ∧ Framed s o t [] 600000 7302250
def lw_Z (below : List Frame) (a : Array Value) (s : State) : State → Prop := fun t => ∃ o, t.status = .running ∧ Ended t below o ∧ lw_Q a s o t
/-- the law's own end, with 1 on the stack, nothing written that was there before, its room as the claim has it -/
theorem lw_ret {p : Program} {l : Launch} {e : Env} {s : State} {m : MethodId} {below : List Frame} {meth : Method} {c : Code} {b : Nat} (hx : p.tables.exec = Jvm.exec) (hb : c.code = code) (hr : meth.sig.returnType = ret) (hlocks : meth.locks = false) {pc : Nat} {H : Heap} {ls : Array Slot} (hdg : decode code pc = .ok (.ireturn, 1)) : W p l e room_1 s m #[Value.ref b] below meth c H [] 600000 7302250 (lw_Z below #[Value.ref b] s) (F0 m pc ls [.int 1]) := by
  intro T hT X
  obtain ⟨fs, hret, hrun, hended, hW, hframe⟩ := X.leave (v := some (.int 1)) (hlocks := hlocks) (fun h => by rw [hr] at h; cases h)
  have hmeth' : T.vm.method? m = some meth := X.method'
  refine ⟨T.setFrames fs, ?_, .returned (some (.int 1)), hrun, hended, rfl, ⟨_, rfl⟩, hW, hframe⟩
  jvm_step X.here [X.here.top, hx, hb, hdg, hmeth', hr, ret, narrow_b1]
  (try refine ⟨rfl, ?_⟩); (try refine ⟨rfl, ?_⟩)
  first | (intro acts; rw [hret _ acts rfl rfl rfl]) | rw [hret _ _ rfl rfl rfl]
  exact Steps.refl _
/-- what holds at the law's entry: the machine, the code, the tables' words (any of lw_tbl by 'hts w (by decide +kernel)'), the script of L ints xs at the cell b, what the Statement gives of the start (any of its parts by flat_of_before) -/
def lw_At (p : Program) (s : State) (m : MethodId) (meth : Method) (c : Code) (b L : Nat) (xs : Nat → Int32) : Prop :=
  p.tables.exec = Jvm.exec ∧ c.code = code ∧ meth.sig.returnType = ret ∧ c.maxLocals = 4 ∧ s.vm.findClass R_law = some m.cls ∧ (∀ w ∈ lw_tbl, w.before #[Value.ref b] s = true) ∧ va_X b L xs s s.heap ∧ b < s.heap.size ∧ meth.locks = false ∧ (Jvm.Cond.and given_1 narrow_1).before #[Value.ref b] s = true

/-! the objects as they are at first, and the walk of the law from there -/
def sgI : Sg := (fun c j => Int32.ofInt ((LB.getD c (99, 0, [])).2.2.getD j 0), fun c j => Int64.ofInt ((LB.getD c (99, 0, [])).2.2.getD j 0))
theorem LB_ck : ∀ k, k < NC → (LB.getD k (99, 0, [])).1 = ck k ∧ (LB.getD k (99, 0, [])).2.1 = al k ∧ al k < 2000 := by decide +kernel
theorem LB_ob : ∀ k, k < NC → ∀ j, j < 30 → (ck k < 5 ∨ ft (ck k - 5) j ≠ 2 ∨ nf (ck k - 5) ≤ j ∨ (0 ≤ (LB.getD k (99, 0, [])).2.2.getD j 0 ∧ ((LB.getD k (99, 0, [])).2.2.getD j 0).toNat = rf k j ∧ rf k j < NC)) := by decide +kernel
theorem LB_ar : ∀ k, k < NC → (ck k ≠ 3 ∧ ck k ≠ 4) ∨ k + 1 + al k ≤ NC := by decide +kernel
theorem nf_le : ∀ c, c < 9 → nf c ≤ 30 := by decide +kernel
theorem ck_cases : ∀ k, k < NC → ck k < 14 := by decide +kernel
def adf (B : Nat) (st : Nat → Nat) (b : Nat) (k : Nat) : Nat := if k < NC then B + k else if k < 2000 then st (k - 1000) else b
theorem wld_init {D : va_G} {tc : Nat → ClassId} {B : Nat} {st : Nat → Nat} {b : Nat} {H : Heap} (hP : va_P D cl (wl0 tc B LB) H) : va_P D cl (wld tc (adf B st b) sgI) H := by
  intro k q hq
  have hk : k < NC := by
    have := (List.getElem?_eq_some_iff.mp hq).1
    simpa [wld] using this
  rw [wld_get hk] at hq
  cases hq
  have hlen : k < LB.length := by rw [LB_len]; exact hk
  obtain ⟨e, he⟩ : ∃ e, LB[k]? = some e := ⟨LB[k], List.getElem?_eq_getElem hlen⟩
  have hge : LB.getD k (99, 0, []) = e := by simp [List.getD, he]
  have h0 := hP k _ (wl0_get he)
  obtain ⟨h1, h2, h3⟩ := LB_ck k hk
  rw [hge] at h1 h2
  have had : adf B st b k = B + k := if_pos hk
  rw [had]
  obtain ⟨kd, n, fs⟩ := e
  dsimp only at h1 h2
  subst h1
  subst h2
  have hr : ∀ j, (LB.getD k (99, 0, [])).2.2.getD j 0 = fs.getD j 0 := fun j => by rw [hge]
  have hs1 : ∀ j, sgI.1 k j = Int32.ofInt (fs.getD j 0) := fun j => by show Int32.ofInt _ = _; rw [hr]
  have hs2 : ∀ j, sgI.2 k j = Int64.ofInt (fs.getD j 0) := fun j => by show Int64.ofInt _ = _; rw [hr]
  unfold cel
  unfold encE at h0
  dsimp only at h0
  have h14 := ck_cases k hk
  have har := LB_ar k hk
  have hob := LB_ob k hk
  generalize hc : ck k = c at h0 h14 har hob
  match c, h14, h0, har, hob, hc with
  | 0, _, h0, _, _, _ =>
    have e1 : sgI.1 k = fun j => Int32.ofInt (fs.getD j 0) := funext hs1
    rw [e1]
    exact h0
  | 1, _, h0, _, _, _ =>
    have e1 : sgI.2 k = fun j => Int64.ofInt (fs.getD j 0) := funext hs2
    rw [e1]
    exact h0
  | 2, _, h0, _, _, _ =>
    have e1 : sgI.1 k = fun j => Int32.ofInt (fs.getD j 0) := funext hs1
    rw [e1]
    exact h0
  | 3, _, h0, har, _, _ =>
    have h0 : H[B + k]? = some (vp_cell (tc 3) (al k, .inr (.inr (.inr (.inr fun j => some (B + k + 1 + j)))))) := h0
    show H[B + k]? = some (vp_cell (tc 3) (al k, .inr (.inr (.inr (.inr fun j => some (adf B st b (k + 1 + j)))))))
    rw [h0, vp_cell_q, vp_cell_q]
    refine congrArg some (arrV_cong fun j hj => ?_)
    have h5 : k + 1 + al k ≤ NC := har.resolve_left (fun q => q.1 rfl)
    show va_rf (some (B + k + 1 + j)) = va_rf (some (adf B st b (k + 1 + j)))
    rw [show adf B st b (k + 1 + j) = B + (k + 1 + j) from if_pos (by omega)]
    rw [show B + k + 1 + j = B + (k + 1 + j) by omega]
  | 4, _, h0, har, _, _ =>
    have h0 : H[B + k]? = some (vp_cell (tc 4) (al k, .inr (.inr (.inr (.inr fun j => some (B + k + 1 + j)))))) := h0
    show H[B + k]? = some (vp_cell (tc 4) (al k, .inr (.inr (.inr (.inr fun j => some (adf B st b (k + 1 + j)))))))
    rw [h0, vp_cell_q, vp_cell_q]
    refine congrArg some (arrV_cong fun j hj => ?_)
    have h5 : k + 1 + al k ≤ NC := har.resolve_left (fun q => q.2 rfl)
    show va_rf (some (B + k + 1 + j)) = va_rf (some (adf B st b (k + 1 + j)))
    rw [show adf B st b (k + 1 + j) = B + (k + 1 + j) from if_pos (by omega)]
    rw [show B + k + 1 + j = B + (k + 1 + j) by omega]
  | c + 5, h14, h0, _, hob, _ =>
    have hl : (List.range (nf c)).map (fvl (adf B st b) sgI c k) = (List.range (nf c)).map fun j => fv0 B (ft c j) (fs.getD j 0) := by
      refine List.map_congr_left fun j hj => ?_
      have hjn := List.mem_range.mp hj
      have hj30 : j < 30 := Nat.lt_of_lt_of_le hjn (nf_le c (by omega))
      have ho := hob j hj30
      rw [hr, show c + 5 - 5 = c by omega] at ho
      unfold fvl fv0
      generalize ft c j = t at ho ⊢
      match t, ho with
      | 0, _ =>
        show Value.int _ = Value.int _
        rw [hs1]
      | 1, _ =>
        show Value.long _ = Value.long _
        rw [hs2]
      | 2, ho =>
        have ho2 : 0 ≤ fs.getD j 0 ∧ (fs.getD j 0).toNat = rf k j ∧ rf k j < NC := by
          rcases ho with q | q | q | q
          · omega
          · exact absurd rfl q
          · omega
          · exact q
        have hn : ¬ fs.getD j 0 < 0 := by omega
        show Value.ref (adf B st b (rf k j)) = (bif decide (fs.getD j 0 < 0) then Value.null else .ref (B + (fs.getD j 0).toNat))
        rw [decide_eq_false hn, cond_false, ho2.2.1, show adf B st b (rf k j) = B + rf k j from if_pos ho2.2.2]
      | n + 3, _ =>
        show Value.int _ = Value.int _
        rw [hs1]
    show va_at D cl (B + k, .inr (c, (List.range (nf c)).map (fvl (adf B st b) sgI c k))) H
    rw [hl]
    exact h0
theorem st_el0 : ∀ j, j < 6 → Cond.eq (.elem (.static "PureGroups" "UNDER" "[I") (.int (Int32.ofNat j))) (.int (sv 1000 j)) ∈ flatC (Jvm.Cond.and given_1 narrow_1) := by decide +kernel
theorem st_el1 : ∀ j, j < 6 → Cond.eq (.elem (.static "PureGroups" "LESS_OF_UNIT_1" "[I") (.int (Int32.ofNat j))) (.int (sv 1001 j)) ∈ flatC (Jvm.Cond.and given_1 narrow_1) := by decide +kernel
theorem st_el2 : ∀ j, j < 6 → Cond.eq (.elem (.static "PureGroups" "LESS_OF_UNIT_2" "[I") (.int (Int32.ofNat j))) (.int (sv 1002 j)) ∈ flatC (Jvm.Cond.and given_1 narrow_1) := by decide +kernel
theorem st_el3 : ∀ j, j < 6 → Cond.eq (.elem (.static "PureGroups" "TIMES" "[I") (.int (Int32.ofNat j))) (.int (sv 1003 j)) ∈ flatC (Jvm.Cond.and given_1 narrow_1) := by decide +kernel
theorem st_el4 : ∀ j, j < 25 → Cond.eq (.elem (.static "PureGroups" "PRIMES" "[I") (.int (Int32.ofNat j))) (.int (sv 1004 j)) ∈ flatC (Jvm.Cond.and given_1 narrow_1) := by decide +kernel
/-- what the Statement gives of a static array -/
theorem stc_of {s : State} {b : Nat} (hgv : (Jvm.Cond.and given_1 narrow_1).before #[Value.ref b] s = true) (hts : ∀ w ∈ lw_tbl, w.before #[Value.ref b] s = true) (i : Nat) (hi : i < 5) : ∃ t : Nat, va_Z "PureGroups" (sq (1000 + i)).1 "[I" (.ref t) (fun q => s.heap.size ≤ q) s s.heap ∧ va_T .int t (sn (1000 + i)) (fun j => .int (sv (1000 + i) j)) (fun q => s.heap.size ≤ q) s s.heap := by
  have hs := flat_of_before _ hgv
  have hA : ∀ a : Nat, a < s.heap.size → ¬ (fun q => s.heap.size ≤ q) a := fun a h q => by have q : s.heap.size ≤ a := q; omega
  have hini : (Cond.initialized "PureGroups").before #[Value.ref b] s = true := hts _ (lw_1 1 rfl)
  have key : ∀ (n : String) (N : Nat) (f : Nat → Int32), N < 100 → (Cond.laysStatic "PureGroups" n "[I").before #[Value.ref b] s = true → (Cond.arrayOf (.static "PureGroups" n "[I") .int).before #[Value.ref b] s = true → (Cond.eq (.length (.static "PureGroups" n "[I")) (.int (Int32.ofNat N))).before #[Value.ref b] s = true → (∀ j, j < N → (Cond.eq (.elem (.static "PureGroups" n "[I") (.int (Int32.ofNat j))) (.int (f j))).before #[Value.ref b] s = true) → ∃ t : Nat, va_Z "PureGroups" n "[I" (.ref t) (fun q => s.heap.size ≤ q) s s.heap ∧ va_T .int t N (fun j => .int (f j)) (fun q => s.heap.size ≤ q) s s.heap := by
    intro n N f hN h1 h2 h3 h4
    obtain ⟨t, ht, hT⟩ := va_Tof (f := fun j => .int (f j)) (by omega) h2 (va_eqt h3) (fun j hj => va_eqt (h4 j hj)) hA
    exact ⟨t, va_Zof h1 hini ht hA, hT⟩
  have mem : ∀ c, c ∈ flatC (Jvm.Cond.and given_1 narrow_1) → c.before #[Value.ref b] s = true := hs
  match i, hi with
  | 0, _ => exact key "UNDER" 6 (sv 1000) (by decide) (hts _ (lw_2 199 rfl)) (mem _ (by decide +kernel)) (mem _ (by decide +kernel)) (fun j hj => mem _ (st_el0 j hj))
  | 1, _ => exact key "LESS_OF_UNIT_1" 6 (sv 1001) (by decide) (hts _ (lw_2 127 rfl)) (mem _ (by decide +kernel)) (mem _ (by decide +kernel)) (fun j hj => mem _ (st_el1 j hj))
  | 2, _ => exact key "LESS_OF_UNIT_2" 6 (sv 1002) (by decide) (hts _ (lw_2 129 rfl)) (mem _ (by decide +kernel)) (mem _ (by decide +kernel)) (fun j hj => mem _ (st_el2 j hj))
  | 3, _ => exact key "TIMES" 6 (sv 1003) (by decide) (hts _ (lw_2 131 rfl)) (mem _ (by decide +kernel)) (mem _ (by decide +kernel)) (fun j hj => mem _ (st_el3 j hj))
  | 4, _ => exact key "PRIMES" 25 (sv 1004) (by decide) (hts _ (lw_3 154 rfl)) (mem _ (by decide +kernel)) (mem _ (by decide +kernel)) (fun j hj => mem _ (st_el4 j hj))
theorem onNst {w : Cond} (h : isNst w = true) : w.onTables = true := by
  cases w <;> first | rfl | cases h

set_option maxHeartbeats 4000000 in
/-- THE LAW, from its entry, over what its calls do -/
theorem whole_of {V : Nat → Sg → Prop} (hO : OpsOK V) (hV0 : V 0 sgI) {p : Program} {e : Env} {s : State} {m : MethodId} {below : List Frame} {meth : Method} {c : Code} (l : Launch) {b L : Nat} {xs : Nat → Int32} (hL : L ≤ 2560) (C0 : lw_At p s m meth c b L xs) : W p l e room_1 s m #[Value.ref b] below meth c s.heap [] 0 0 (lw_Z below #[Value.ref b] s) (entryFrame m ([Value.ref b] : List Value).toArray 4) := by
  obtain ⟨hx, hb, hr, hml, hown, hts0, hX, hbl, hlocks, hgv⟩ := id C0
  have hts : ∀ w ∈ TB, w.before #[Value.ref b] s = true := fun w hw => hts0 w (tb_good hw).1
  have hNs : Nst s := fun w hw hn => va_Nw.of (onNst hn) (hts0 w hw)
  have hov : Ovr s := by
    have h1 := hts0 (Cond.arrayOver (.array .int)) (lw_1 29 rfl)
    have h2 := hts0 (Cond.arrayOver (.array .long)) (lw_1 103 rfl)
    simp only [Cond.before, Cond.holds, Cond.value] at h1 h2
    constructor
    · simp only [Cond.before, Cond.holds, Cond.value]
      exact h1
    · simp only [Cond.before, Cond.holds, Cond.value]
      exact h2
  obtain ⟨c0, iS0, hKn0⟩ := u_known (C := RX0) (T := TX0) (N := 9) (n := 9) hts uw0 (hts (.instantiable RX0 9) (tb_1 158 rfl rfl))
  obtain ⟨c1, iS1, hKn1⟩ := u_known (C := RX1) (T := TX1) (N := 6) (n := 6) hts uw1 (hts (.instantiable RX1 6) (tb_1 97 rfl rfl))
  obtain ⟨c2, iS2, hKn2⟩ := u_known (C := RX2) (T := TX2) (N := 3) (n := 3) hts uw2 (hts (.instantiable RX2 3) (tb_1 72 rfl rfl))
  obtain ⟨c3, iS3, hKn3⟩ := u_known (C := RX3) (T := TX3) (N := 8) (n := 8) hts uw3 (hts (.instantiable RX3 8) (tb_1 23 rfl rfl))
  obtain ⟨c4, iS4, hKn4⟩ := u_known (C := RX4) (T := TX4) (N := 13) (n := 13) hts uw4 (hts (.instantiable RX4 13) (tb_1 229 rfl rfl))
  obtain ⟨c5, iS5, hKn5⟩ := u_known (C := RX5) (T := TX5) (N := 7) (n := 7) hts uw5 (hts (.instantiable RX5 7) (tb_1 199 rfl rfl))
  obtain ⟨c6, iS6, hKn6⟩ := u_known (C := RX6) (T := TX6) (N := 5) (n := 5) hts uw6 (hts (.instantiable RX6 5) (tb_1 90 rfl rfl))
  obtain ⟨c7, iS7, hKn7⟩ := u_known (C := RX7) (T := TX7) (N := 16) (n := 16) hts uw7 (hts (.instantiable RX7 16) (tb_1 15 rfl rfl))
  obtain ⟨c8, iS8, hKn8⟩ := u_known (C := RX8) (T := TX8) (N := 27) (n := 27) hts uw8 (hts (.instantiable RX8 27) (tb_4 134 rfl rfl))
  obtain ⟨D, hKc⟩ : ∃ (D : va_G), ∀ (k : Nat) (q : vw_C), cl[k]? = some q → u_Kn s q.1 q.2.1 q.2.2 (D.1 k) (D.2 k) := by
    refine ⟨(fun k => if k = 0 then c0 else if k = 1 then c1 else if k = 2 then c2 else if k = 3 then c3 else if k = 4 then c4 else if k = 5 then c5 else if k = 6 then c6 else if k = 7 then c7 else c8, fun k => if k = 0 then iS0 else if k = 1 then iS1 else if k = 2 then iS2 else if k = 3 then iS3 else if k = 4 then iS4 else if k = 5 then iS5 else if k = 6 then iS6 else if k = 7 then iS7 else iS8), ?_⟩
    intro k q hq
    match k, hq with
    | 0, hq => cases hq; exact hKn0
    | 1, hq => cases hq; exact hKn1
    | 2, hq => cases hq; exact hKn2
    | 3, hq => cases hq; exact hKn3
    | 4, hq => cases hq; exact hKn4
    | 5, hq => cases hq; exact hKn5
    | 6, hq => cases hq; exact hKn6
    | 7, hq => cases hq; exact hKn7
    | 8, hq => cases hq; exact hKn8
    | k + 9, hq => simp [cl] at hq
  have arr : ∀ d, d < 3 → ∃ cA : ClassId, ArrOfT s cA (dk d) ∧ s.vm.findClass ("[" ++ (dk d).toString) = some cA := fun d hd => by
    obtain ⟨cA, k, comp, h1, h2, h3⟩ := Cond.arrayClass_spec (hts _ (arC d hd))
    exact ⟨cA, fun n z => ⟨(fun q hq => by cases hq), k, h2, comp, h3⟩, h1⟩
  have arr2 : ∀ t : FieldType, (Cond.arrayOver (.array t)).before #[] s = true → ∃ cA : ClassId, ArrOfT s cA (.array t) ∧ va_RA s cA (.array t) := fun t h => by
    obtain ⟨comp, cA, k, h1, h2, h3, h4, h5⟩ := Ovr1.spec h
    exact ⟨cA, fun n z => ⟨(fun q hq => by cases hq), k, h3, comp, h4⟩, h5⟩
  obtain ⟨t0, a0, f0⟩ := arr 0 (by decide)
  obtain ⟨t1, a1, f1⟩ := arr 1 (by decide)
  obtain ⟨t2, a2, f2⟩ := arr 2 (by decide)
  obtain ⟨t3, a3, f3⟩ := arr2 .int hov.1
  obtain ⟨t4, a4, f4⟩ := arr2 .long hov.2
  obtain ⟨tc, hK⟩ : ∃ tc : Nat → ClassId, va_K D cl (tys tc) s := by
    refine ⟨fun k => if k = 0 then t0 else if k = 1 then t1 else if k = 2 then t2 else if k = 3 then t3 else t4, hKc, ?_⟩
    intro k q hq
    match k, hq with
    | 0, hq => cases hq; exact ⟨a0, f0⟩
    | 1, hq => cases hq; exact ⟨a1, f1⟩
    | 2, hq => cases hq; exact ⟨a2, f2⟩
    | 3, hq => cases hq; exact ⟨a3, f3⟩
    | 4, hq => cases hq; exact ⟨a4, f4⟩
    | k + 5, hq => simp [tys] at hq
  obtain ⟨st, hst⟩ : ∃ st : Nat → Nat, ∀ i, i < 5 → va_Z "PureGroups" (sq (1000 + i)).1 "[I" (.ref (st i)) (fun q => s.heap.size ≤ q) s s.heap ∧ va_T .int (st i) (sn (1000 + i)) (fun j => .int (sv (1000 + i) j)) (fun q => s.heap.size ≤ q) s s.heap := by
    refine ⟨fun i => if h : i < 5 then Classical.choose (stc_of hgv hts0 i h) else 0, fun i hi => ?_⟩
    have h := Classical.choose_spec (stc_of hgv hts0 i hi)
    simpa only [dif_pos hi] using h
  have had : ∀ k, k < NC → adf s.heap.size st b k = s.heap.size + k := fun k hk => if_pos hk
  have F0 : Fy p room_1 s m #[Value.ref b] meth c D tc RL code 4 := ⟨hx, hb, hml, hown, hts, hK, ⟨hNs, hov⟩, ⟨by decide, by decide⟩⟩
  have hl := lv_entry ([.ref b]) (n := 4) (Nat.le_of_ble_eq_true rfl)
  rw [lg_entry_eq]
  generalize (lg_sl ([.ref b]) ++ List.replicate (4 - (lg_sl ([.ref b])).length) Slot.unset).toArray = ls at hl ⊢
  have hl : lv_has ls 4 [(0, .ref b)] := hl
  have d0 : decode code 0 = .ok (.new 7, 3) := by decide +kernel
  have d3 : decode code 3 = .ok (.dup, 1) := by decide +kernel
  have d4 : decode code 4 = .ok (.invokespecial 9, 3) := by decide +kernel
  have d7 : decode code 7 = .ok (.astore_n 1, 1) := by decide +kernel
  have d8 : decode code 8 = .ok (.new 10, 3) := by decide +kernel
  have d11 : decode code 11 = .ok (.dup, 1) := by decide +kernel
  have d12 : decode code 12 = .ok (.invokespecial 12, 3) := by decide +kernel
  have d15 : decode code 15 = .ok (.astore_n 2, 1) := by decide +kernel
  obtain ⟨C1, T1, ty1, w1, w2, w3, w4, w5, w6, w7⟩ : NewOK RL 7 7 := kcL_0
  obtain ⟨C2, T2, ty2, u1, u2, u3, u4, u5, u6, u7⟩ : NewOK RL 10 8 := kcL_2
  refine c_new (D := D) (tc := tc) (B := s.heap.size) (L := []) hx hb hts hown hK w1 w2 w3 w4 w5 w6 w7 (fun k q h => by simp [wl0] at h) rfl va_S.rf (by decide) (by decide) d0 (fun H1 hP1 hz1 hS1 => ?_)
  refine lv_dup hx hb d3 rfl ?_
  refine callC_W (M := MC) (D := D) (tc := tc) (B := s.heap.size) F0 (en := (4, .invokespecial 9, 3, 0, 0, 6, [])) (idx := 9) (st := [.ref 0, .ref 0]) (as := []) (o := 0) (r := [.ref 0]) rfl d4 kcL_1 rfl (by decide) (evC_ok CC_ok l D tc s.heap.size 4 0 [.ref 0] _ _ _ _ evA) ⟨by decide, by decide⟩ ⟨by decide, by decide⟩ hl.1 hP1 hz1 hS1 (fun H2 locs2 hP2 hz2 hS2 => ?_)
  refine lv_astore_n (x := s.heap.size + 0) (lv' := [(1, .ref (s.heap.size + 0)), (0, .ref b)]) hx hb d7 rfl hl (by decide) rfl (fun ls hl => ?_)
  refine c_new (D := D) (tc := tc) (B := s.heap.size) (L := LA) hx hb hts hown hK u1 u2 u3 u4 u5 u6 u7 hP2 hz2 hS2 (by decide) (by decide) d8 (fun H3 hP3 hz3 hS3 => ?_)
  refine lv_dup hx hb d11 rfl ?_
  have hB2 : evC MC CC 4 8 [.ref LA.length] (LA ++ [(5 + 8, nf 8, dfl 8)]) = some (LB, 17, 1909) := by
    rw [LA_len]
    exact evB
  refine callC_W (M := MC) (D := D) (tc := tc) (B := s.heap.size) F0 (en := (12, .invokespecial 12, 3, 8, 0, 6, [])) (idx := 12) (st := [.ref LA.length, .ref LA.length]) (as := []) (o := LA.length) (r := [.ref LA.length]) rfl d12 kcL_3 rfl (Nat.le_of_ble_eq_true rfl) (evC_ok CC_ok l D tc s.heap.size 4 8 [.ref LA.length] _ _ _ _ hB2) ⟨by decide, by decide⟩ ⟨by decide, by decide⟩ hl.1 hP3 hz3 hS3 (fun H4 locs4 hP4 hz4 hS4 => ?_)
  refine lv_astore_n (x := s.heap.size + LA.length) (lv' := [(2, .ref (s.heap.size + LA.length)), (1, .ref (s.heap.size + 0)), (0, .ref b)]) hx hb d15 rfl hl (by decide) rfl (fun ls hl => ?_)
  have hinj : ∀ i j, i < NC → j < NC → adf s.heap.size st b i = adf s.heap.size st b j → i = j := fun i j hi hj h => by
    rw [had i hi, had j hj] at h
    omega
  have hAd : ∀ q, inA (adf s.heap.size st b) q → s.heap.size ≤ q := fun q h => by
    obtain ⟨k, hk, rfl⟩ := h
    rw [had k hk]
    omega
  have hStc : Stc (fun q => s.heap.size ≤ q) (adf s.heap.size st b) s s.heap := fun i hi => by
    have h := hst i hi
    have e9 : adf s.heap.size st b (1000 + i) = st i := by
      have n1 : NC = 135 := rfl
      unfold adf
      rw [if_neg (by omega), if_pos (by omega), show 1000 + i - 1000 = i by omega]
    rw [e9]
    exact h
  have e2000 : adf s.heap.size st b 2000 = b := by
    have n1 : NC = 135 := rfl
    unfold adf
    rw [if_neg (by omega), if_neg (by omega)]
  have F : Fx p room_1 s m #[Value.ref b] c D tc (adf s.heap.size st b) (fun q => s.heap.size ≤ q) RL code 4 (some (L, xs)) := by
    refine ⟨hx, hb, hml, hown, hts, hK, hinj, hAd, ⟨hStc, hNs⟩, ⟨by decide, by decide⟩, fun x hx9 => ?_⟩
    cases hx9
    rw [e2000]
    exact ⟨by show L < 2 ^ 31; omega, hX, hbl, fun q => by have q : s.heap.size ≤ b := q; omega⟩
  have hrun : Rc (some (L, xs)) (Ev MT CT 70) sgW (16, [(0, .ref 2000), (1, .ref 0), (2, .ref 117)], [], sgI) (fun v _ => v = some (.int 1)) := by
    refine Rc.blk (s2 := (18, [(3, .int 0), (0, .ref 2000), (1, .ref 0), (2, .ref 117)], [], sgI)) 0 rfl rfl trivial ?_
    refine Rc.pick [1, 2, 3, 0] (lv2 := [(0, .ref 2000), (1, .ref 0), (2, .ref 117), (3, .int 0)]) rfl ?_
    exact law_loop hO (d := 70) (by decide) hL (L + 1) 0 sgI (by omega) (by omega) hV0
  obtain ⟨n, hn⟩ := hrun
  refine Rch_ok (M := MT) (l := l) (D := D) (tc := tc) (ad := adf s.heap.size st b) F (cs := sgW) (G := Ev MT CT 70) (Q := fun v _ => v = some (.int 1)) (fun k L9 hk en hen => (sgW_ok L9 (List.mem_of_getElem? hk) en hen).1) (fun mid as σ P h => ⟨70, ⟨by decide, by decide⟩, Ev_ok CT_ok l D tc _ hinj 70 mid as σ P h⟩) ⟨by decide, by decide⟩ ?_ n (16, [(0, .ref 2000), (1, .ref 0), (2, .ref 117)], [], sgI) hn H4 locs4 ls ?_ (wld_init hP4) hS4
  · intro k en cp v lv stk σ2 hk hok hrv hcp hQ H locs ls hl2 hP2 hS2
    obtain ⟨-, hro⟩ := sgW_ok _ (List.mem_of_getElem? hk) en List.mem_cons_self
    obtain ⟨pc, ins, len, a, b9, d1, zs⟩ := en
    obtain ⟨hdec, -, hln⟩ := hok
    dsimp only at hdec hln hP2 ⊢
    subst hQ
    cases ins with
    | ireturn =>
      obtain rfl : len = 1 := hln (fun _ _ _ _ h => by cases h)
      match stk, hrv with
      | [.int x], hrv =>
        have hx1 : x = 1 := by
          simp only [retv] at hrv
          cases ha : (a == 1) with
          | true =>
            rw [ha] at hrv
            simp only [cond_true, Option.some.injEq, Prod.mk.injEq, Value.int.injEq] at hrv
            exact hrv.2
          | false =>
            rw [ha] at hrv
            simp only [cond_false, Option.some.injEq, Prod.mk.injEq, Value.int.injEq] at hrv
            exact hrv.2
        subst hx1
        refine va_forget (fun q hq => hS2.2.2 q hq) ?_
        refine W.widen (k := 600000) (n := 7302250) (by decide) (by decide) ?_
        exact lw_ret hx hb hr hlocks hdec
    | lreturn =>
      match stk, hrv with
      | [.long x], hrv => simp [retv] at hrv
    | areturn =>
      match stk, hrv with
      | [.ref x], hrv => simp [retv] at hrv
    | return_ =>
      match stk, hrv with
      | [], hrv => simp [retv] at hrv
    | _ => first | (simp [retv] at hrv; done) | cases hrv
  · have hl3 : lv_has ls 4 [(0, .ref b), (1, .ref (s.heap.size + 0)), (2, .ref (s.heap.size + LA.length))] := lv_sub hl [2, 1, 0] rfl
    have e0 : adf s.heap.size st b 0 = s.heap.size + 0 := had 0 (by decide)
    have e117 : adf s.heap.size st b 117 = s.heap.size + LA.length := by rw [had 117 (by decide), LA_len]
    show lv_has ls 4 [(0, .ref (adf s.heap.size st b 2000)), (1, .ref (adf s.heap.size st b 0)), (2, .ref (adf s.heap.size st b 117))]
    rw [e2000, e0, e117]
    exact hl3
