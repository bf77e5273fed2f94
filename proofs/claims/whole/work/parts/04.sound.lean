/-! ===== what the small machine does, the machine does ===== -/
theorem nx_inv {q : Nat} {lv : LV} {st : List Value} {σ : Sg} {cs : List Prop} {pc2 : Nat} {lv2 : LV} {st2 : List Value} {σ2 : Sg} (h : nx q lv st σ = some (cs, pc2, lv2, st2, σ2)) : pc2 = q ∧ lv2 = lv ∧ st2 = st ∧ σ2 = σ := by
  simp only [nx, Option.some.injEq, Prod.mk.injEq] at h
  exact ⟨h.2.1.symm, h.2.2.1.symm, h.2.2.2.1.symm, h.2.2.2.2.symm⟩
theorem cx_inv {c : Prop} {q : Nat} {lv : LV} {st : List Value} {σ : Sg} {cs : List Prop} {pc2 : Nat} {lv2 : LV} {st2 : List Value} {σ2 : Sg} (h : cx c q lv st σ = some (cs, pc2, lv2, st2, σ2)) (hc : conj cs) : c ∧ pc2 = q ∧ lv2 = lv ∧ st2 = st ∧ σ2 = σ := by
  simp only [cx, Option.some.injEq, Prod.mk.injEq] at h
  rw [← h.1] at hc
  exact ⟨hc.1, h.2.1.symm, h.2.2.1.symm, h.2.2.2.1.symm, h.2.2.2.2.symm⟩
section INV
variable {q : Nat} {lv : LV} {st : List Value} {σ : Sg} {cs : List Prop} {pc2 : Nat} {lv2 : LV} {st2 : List Value} {σ2 : Sg}
theorem xldI_inv {o : Option Value} (h : xld (isI o) q lv st σ = some (cs, pc2, lv2, st2, σ2)) : ∃ x, o = some (.int x) ∧ pc2 = q ∧ lv2 = lv ∧ st2 = .int x :: st ∧ σ2 = σ := by
  match o, h with
  | some (.int x), h => obtain ⟨h1, h2, h3, h4⟩ := nx_inv h; exact ⟨x, rfl, h1, h2, h3, h4⟩
theorem xldJ_inv {o : Option Value} (h : xld (isJ o) q lv st σ = some (cs, pc2, lv2, st2, σ2)) : ∃ x, o = some (.long x) ∧ pc2 = q ∧ lv2 = lv ∧ st2 = .long x :: st ∧ σ2 = σ := by
  match o, h with
  | some (.long x), h => obtain ⟨h1, h2, h3, h4⟩ := nx_inv h; exact ⟨x, rfl, h1, h2, h3, h4⟩
theorem xldR_inv {o : Option Value} (h : xld (isR o) q lv st σ = some (cs, pc2, lv2, st2, σ2)) : ∃ x, o = some (.ref x) ∧ pc2 = q ∧ lv2 = lv ∧ st2 = .ref x :: st ∧ σ2 = σ := by
  match o, h with
  | some (.ref x), h => obtain ⟨h1, h2, h3, h4⟩ := nx_inv h; exact ⟨x, rfl, h1, h2, h3, h4⟩
theorem xst_inv {i : Nat} (h : xst i q lv st σ = some (cs, pc2, lv2, st2, σ2)) : ∃ x r, st = .int x :: r ∧ pc2 = q ∧ lv2 = lset1 lv i (.int x) ∧ st2 = r ∧ σ2 = σ := by
  match st, h with
  | .int x :: r, h => obtain ⟨h1, h2, h3, h4⟩ := nx_inv h; exact ⟨x, r, rfl, h1, h2, h3, h4⟩
theorem xsta_inv {i : Nat} (h : xsta i q lv st σ = some (cs, pc2, lv2, st2, σ2)) : ∃ x r, st = .ref x :: r ∧ pc2 = q ∧ lv2 = lset1 lv i (.ref x) ∧ st2 = r ∧ σ2 = σ := by
  match st, h with
  | .ref x :: r, h => obtain ⟨h1, h2, h3, h4⟩ := nx_inv h; exact ⟨x, r, rfl, h1, h2, h3, h4⟩
theorem xstl_inv {i : Nat} (h : xstl i q lv st σ = some (cs, pc2, lv2, st2, σ2)) : ∃ x r, st = .long x :: r ∧ pc2 = q ∧ lv2 = lset2 lv i (.long x) ∧ st2 = r ∧ σ2 = σ := by
  match st, h with
  | .long x :: r, h => obtain ⟨h1, h2, h3, h4⟩ := nx_inv h; exact ⟨x, r, rfl, h1, h2, h3, h4⟩
theorem x2i_inv {f : Int32 → Int32 → Int32} (h : x2i f q lv st σ = some (cs, pc2, lv2, st2, σ2)) : ∃ x y r, st = .int y :: .int x :: r ∧ pc2 = q ∧ lv2 = lv ∧ st2 = .int (f x y) :: r ∧ σ2 = σ := by
  match st, h with
  | .int y :: .int x :: r, h => obtain ⟨h1, h2, h3, h4⟩ := nx_inv h; exact ⟨x, y, r, rfl, h1, h2, h3, h4⟩
theorem x2ic_inv {f : Int32 → Int32 → Int32} (h : x2ic f q lv st σ = some (cs, pc2, lv2, st2, σ2)) (hc : conj cs) : ∃ x y r, st = .int y :: .int x :: r ∧ ¬ y = 0 ∧ pc2 = q ∧ lv2 = lv ∧ st2 = .int (f x y) :: r ∧ σ2 = σ := by
  match st, h with
  | .int y :: .int x :: r, h => obtain ⟨h0, h1, h2, h3, h4⟩ := cx_inv h hc; exact ⟨x, y, r, rfl, h0, h1, h2, h3, h4⟩
theorem x2l_inv {f : Int64 → Int64 → Int64} (h : x2l f q lv st σ = some (cs, pc2, lv2, st2, σ2)) : ∃ x y r, st = .long y :: .long x :: r ∧ pc2 = q ∧ lv2 = lv ∧ st2 = .long (f x y) :: r ∧ σ2 = σ := by
  match st, h with
  | .long y :: .long x :: r, h => obtain ⟨h1, h2, h3, h4⟩ := nx_inv h; exact ⟨x, y, r, rfl, h1, h2, h3, h4⟩
theorem x2lc_inv {f : Int64 → Int64 → Int64} (h : x2lc f q lv st σ = some (cs, pc2, lv2, st2, σ2)) (hc : conj cs) : ∃ x y r, st = .long y :: .long x :: r ∧ ¬ y = 0 ∧ pc2 = q ∧ lv2 = lv ∧ st2 = .long (f x y) :: r ∧ σ2 = σ := by
  match st, h with
  | .long y :: .long x :: r, h => obtain ⟨h0, h1, h2, h3, h4⟩ := cx_inv h hc; exact ⟨x, y, r, rfl, h0, h1, h2, h3, h4⟩
theorem xif_inv {f : Int32 → Nat} (h : xif f lv st σ = some (cs, pc2, lv2, st2, σ2)) : ∃ x r, st = .int x :: r ∧ pc2 = f x ∧ lv2 = lv ∧ st2 = r ∧ σ2 = σ := by
  match st, h with
  | .int x :: r, h => obtain ⟨h1, h2, h3, h4⟩ := nx_inv h; exact ⟨x, r, rfl, h1, h2, h3, h4⟩
theorem xif2_inv {f : Int32 → Int32 → Nat} (h : xif2 f lv st σ = some (cs, pc2, lv2, st2, σ2)) : ∃ x y r, st = .int y :: .int x :: r ∧ pc2 = f x y ∧ lv2 = lv ∧ st2 = r ∧ σ2 = σ := by
  match st, h with
  | .int y :: .int x :: r, h => obtain ⟨h1, h2, h3, h4⟩ := nx_inv h; exact ⟨x, y, r, rfl, h1, h2, h3, h4⟩
end INV
theorem ofInt_eq_iff {x : Int32} {k : Int} (h1 : -2147483648 ≤ k) (h2 : k ≤ 2147483647) : x = Int32.ofInt k ↔ x.toInt = k := by
  constructor
  · intro h
    rw [h]
    exact Int32.toInt_ofInt_of_le h1 (by omega)
  · intro h
    apply Int32.toInt_inj.mp
    rw [h]
    exact (Int32.toInt_ofInt_of_le h1 (by omega)).symm
theorem swt_out {x : Int32} {d : Nat} : ∀ (zs : List Int) (lo : Int), -2147483648 ≤ lo → lo + zs.length - 1 ≤ 2147483647 → (x.toInt < lo ∨ lo + zs.length - 1 < x.toInt) → swt x d lo zs = d
  | [], lo, _, _, _ => rfl
  | t :: r, lo, h1, h2, h => by
    unfold swt
    simp only [List.length_cons] at h2 h
    rw [if_neg (by rw [ofInt_eq_iff h1 (by omega)]; omega)]
    exact swt_out r (lo + 1) (by omega) (by omega) (by omega)
theorem swt_in {x : Int32} {d : Nat} : ∀ (zs : List Int) (lo : Int), -2147483648 ≤ lo → lo + zs.length - 1 ≤ 2147483647 → ¬ x.toInt < lo → ¬ lo + zs.length - 1 < x.toInt → swt x d lo zs = (zs.getD (x.toInt - lo).toNat 0).toNat
  | [], lo, h1, h2, h3, h4 => by simp only [List.length_nil] at h4; omega
  | t :: r, lo, h1, h2, h3, h4 => by
    unfold swt
    simp only [List.length_cons] at h2 h4
    by_cases hx : x.toInt = lo
    · rw [if_pos ((ofInt_eq_iff h1 (by omega)).mpr hx), hx]
      simp
    · rw [if_neg (fun q => hx ((ofInt_eq_iff h1 (by omega)).mp q)), swt_in r (lo + 1) (by omega) (by omega) (by omega) (by omega)]
      have e : (x.toInt - lo).toNat = (x.toInt - (lo + 1)).toNat + 1 := by omega
      rw [e, List.getD_cons_succ]
theorem stc_at {A : Nat → Prop} {ad : Nat → Nat} {U : State} {H : Heap} (h : Stc A ad U H) {c : Nat} (g1 : 1000 ≤ c) (g2 : c < 1005) : va_T .int (ad c) (sn c) (fun j => .int (sv c j)) A U H := by
  have hz := (h (c - 1000) (by omega)).2
  rw [show 1000 + (c - 1000) = c by omega] at hz
  exact hz
theorem ck_nc {c : Nat} (h : ck c ≠ 99) : c < NC := by
  rcases Nat.lt_or_ge c NC with q | q
  · exact q
  · exact absurd (ck_ge q) h
theorem map_set {f g : Nat → Value} {n b : Nat} {v : Value} (hb : b < n) (h : g b = v) (ho : ∀ j, j ≠ b → g j = f j) : (List.range n).map g = ((List.range n).map f).set b v := by
  refine List.ext_getElem? fun i => ?_
  rw [List.getElem?_set]
  by_cases hk : b = i
  · subst hk
    rw [if_pos rfl, List.getElem?_map, List.getElem?_range hb]
    simp [h, hb]
  · rw [if_neg hk, List.getElem?_map, List.getElem?_map]
    rcases Nat.lt_or_ge i n with q | q
    · rw [List.getElem?_range q]
      simp [ho i (fun z => hk z.symm)]
    · rw [List.getElem?_eq_none (by simpa using q)]
      rfl
theorem cel_obj {tc : Nat → ClassId} {ad : Nat → Nat} {σ : Sg} {c a : Nat} (h : ck c = 5 + a) : cel tc ad σ c = .inr (a, (List.range (nf a)).map (fvl ad σ a c)) := by
  unfold cel
  rw [show ck c = a + 5 by omega]
theorem fvl_si {ad : Nat → Nat} {σ : Sg} {a c b : Nat} {x : Int32} (hb : b < nf a) (h1 : ft a b ≠ 1) (h2 : ft a b ≠ 2) : (List.range (nf a)).map (fvl ad (si σ c b x) a c) = ((List.range (nf a)).map (fvl ad σ a c)).set b (.int x) := by
  refine map_set hb ?_ (fun j hj => ?_)
  · unfold fvl
    split
    · contradiction
    · contradiction
    · simp [si, upd]
  · unfold fvl
    simp [si, upd, hj]
theorem fvl_sl {ad : Nat → Nat} {σ : Sg} {a c b : Nat} {x : Int64} (hb : b < nf a) (h1 : ft a b = 1) : (List.range (nf a)).map (fvl ad (sl σ c b x) a c) = ((List.range (nf a)).map (fvl ad σ a c)).set b (.long x) := by
  refine map_set hb ?_ (fun j hj => ?_)
  · unfold fvl
    rw [h1]
    simp [sl, vp_updL]
  · unfold fvl
    simp [sl, vp_updL, hj]
theorem nb_fit {x : Int32} (h : nb x) : narrow .boolean (.int x) = .int x ∧ fits .boolean (.int x) = true := by
  rcases h with rfl | rfl <;> exact ⟨by decide, by decide⟩
section SND
variable {p : Program} {l : Launch} {e : Env} {R : Room} {s : State} {m : MethodId} {args : Array Value} {below : List Frame} {meth : Method} {c : Code} {cells slots : Nat} {Qs : State → Prop}
variable {D : va_G} {tc : Nat → ClassId} {ad : Nat → Nat} {A : Nat → Prop} {own : String} {cc : ByteArray} {nL : Nat} {X : RO} {M : Nat → MI}
/-- what stands while a method runs -/
def Fx (p : Program) (R : Room) (s : State) (m : MethodId) (args : Array Value) (c : Code) (D : va_G) (tc : Nat → ClassId) (ad : Nat → Nat) (A : Nat → Prop) (own : String) (cc : ByteArray) (nL : Nat) (X : RO) : Prop :=
  p.tables.exec = Jvm.exec ∧ c.code = cc ∧ c.maxLocals = nL ∧ s.vm.findClass own = some m.cls ∧ (∀ w ∈ TB, w.before args s = true) ∧ va_K D cl (tys tc) s ∧ (∀ i j, i < NC → j < NC → ad i = ad j → i = j) ∧ (∀ q, inA ad q → A q) ∧ (Stc A ad s s.heap ∧ Nst s) ∧ (1 ≤ R.frames ∧ 64 ≤ R.locals) ∧ (∀ x : Nat × (Nat → Int32), X = some x → x.1 < 2 ^ 31 ∧ va_X (ad 2000) x.1 x.2 s s.heap ∧ ad 2000 < s.heap.size ∧ ¬ A (ad 2000))
abbrev Wk (p : Program) (l : Launch) (e : Env) (R : Room) (s : State) (m : MethodId) (args : Array Value) (below : List Frame) (meth : Method) (c : Code) (cells slots : Nat) (Qs : State → Prop) (tc : Nat → ClassId) (ad : Nat → Nat) (A : Nat → Prop) (nL : Nat) (q : PS) : Prop :=
  ∀ (H : Heap) (locs : List Loc) (ls : Array Slot), lv_has ls nL (elv ad q.2.1) → va_P D cl (wld tc ad q.2.2.2) H → va_S A s.heap H locs → W p l e R s m args below meth c H locs cells slots Qs (F0 m q.1 ls (est ad q.2.2.1))
theorem exec1_ok (F : Fx p R s m args c D tc ad A own cc nL X) (hbud : cells ≤ R.cells ∧ slots ≤ R.slots) {en : Ent} (hok : EntOK M own cc nL en) {lv : LV} {st : List Value} {σ : Sg} {cs : List Prop} {pc2 : Nat} {lv2 : LV} {st2 : List Value} {σ2 : Sg} (h : exec1 X en lv st σ = some (cs, pc2, lv2, st2, σ2)) (hc : conj cs)
    (kk : Wk (D := D) p l e R s m args below meth c cells slots Qs tc ad A nL (pc2, lv2, st2, σ2)) : Wk (D := D) p l e R s m args below meth c cells slots Qs tc ad A nL (en.1, lv, st, σ) := by
  obtain ⟨hx, hb, hml, hown, hts, hK, hinj, hAd, ⟨hSt, hNs⟩, hRm, hX⟩ := F
  obtain ⟨pc, ins, len, a, b, d, zs⟩ := en
  obtain ⟨hdec, hok, hlen⟩ := hok
  intro H locs ls hl hP hS
  have hD : va_D A (wld tc ad σ) := wld_D hinj hAd σ
  dsimp only at hdec hlen hok hl hP hS ⊢
  cases ins with
  | iload i =>
    obtain rfl : len = 2 := hlen (fun _ _ _ _ h => by cases h)
    obtain ⟨x, h1, rfl, rfl, rfl, rfl⟩ := xldI_inv h
    exact lv_iload hx hb hdec (lget_has hl h1) (kk H locs ls hl hP hS)
  | iload_n k =>
    obtain rfl : len = 1 := hlen (fun _ _ _ _ h => by cases h)
    obtain ⟨x, h1, rfl, rfl, rfl, rfl⟩ := xldI_inv h
    exact lv_iload_n hx hb hdec rfl (lget_has hl h1) (kk H locs ls hl hP hS)
  | lload i =>
    obtain rfl : len = 2 := hlen (fun _ _ _ _ h => by cases h)
    obtain ⟨x, h1, rfl, rfl, rfl, rfl⟩ := xldJ_inv h
    exact lv_lload hx hb hdec (lget_has hl h1) (kk H locs ls hl hP hS)
  | lload_n k =>
    obtain rfl : len = 1 := hlen (fun _ _ _ _ h => by cases h)
    obtain ⟨x, h1, rfl, rfl, rfl, rfl⟩ := xldJ_inv h
    exact lv_lload_n hx hb hdec rfl (lget_has hl h1) (kk H locs ls hl hP hS)
  | aload i =>
    obtain rfl : len = 2 := hlen (fun _ _ _ _ h => by cases h)
    obtain ⟨x, h1, rfl, rfl, rfl, rfl⟩ := xldR_inv h
    exact lv_aload hx hb hdec (lget_has hl h1) (kk H locs ls hl hP hS)
  | aload_n k =>
    obtain rfl : len = 1 := hlen (fun _ _ _ _ h => by cases h)
    obtain ⟨x, h1, rfl, rfl, rfl, rfl⟩ := xldR_inv h
    exact lv_aload_n hx hb hdec rfl (lget_has hl h1) (kk H locs ls hl hP hS)
  | istore i =>
    obtain rfl : len = 2 := hlen (fun _ _ _ _ h => by cases h)
    obtain ⟨x, r, rfl, rfl, rfl, rfl, rfl⟩ := xst_inv h
    exact lv_istore hx hb hdec hl hok (elv_lset1 ad lv i (.int x)) (fun ls' hl' => kk H locs ls' hl' hP hS)
  | istore_n k =>
    obtain rfl : len = 1 := hlen (fun _ _ _ _ h => by cases h)
    obtain ⟨x, r, rfl, rfl, rfl, rfl, rfl⟩ := xst_inv h
    exact lv_istore_n hx hb hdec rfl hl hok (elv_lset1 ad lv k.val (.int x)) (fun ls' hl' => kk H locs ls' hl' hP hS)
  | astore i =>
    obtain rfl : len = 2 := hlen (fun _ _ _ _ h => by cases h)
    obtain ⟨x, r, rfl, rfl, rfl, rfl, rfl⟩ := xsta_inv h
    exact lv_astore hx hb hdec hl hok (elv_lset1 ad lv i (.ref x)) (fun ls' hl' => kk H locs ls' hl' hP hS)
  | astore_n k =>
    obtain rfl : len = 1 := hlen (fun _ _ _ _ h => by cases h)
    obtain ⟨x, r, rfl, rfl, rfl, rfl, rfl⟩ := xsta_inv h
    exact lv_astore_n hx hb hdec rfl hl hok (elv_lset1 ad lv k.val (.ref x)) (fun ls' hl' => kk H locs ls' hl' hP hS)
  | lstore i =>
    obtain rfl : len = 2 := hlen (fun _ _ _ _ h => by cases h)
    obtain ⟨x, r, rfl, rfl, rfl, rfl, rfl⟩ := xstl_inv h
    exact lv_lstore hx hb hdec hl hok (elv_lset2 ad lv i (.long x)) (fun ls' hl' => kk H locs ls' hl' hP hS)
  | lstore_n k =>
    obtain rfl : len = 1 := hlen (fun _ _ _ _ h => by cases h)
    obtain ⟨x, r, rfl, rfl, rfl, rfl, rfl⟩ := xstl_inv h
    exact lv_lstore_n hx hb hdec rfl hl hok (elv_lset2 ad lv k.val (.long x)) (fun ls' hl' => kk H locs ls' hl' hP hS)
  | iinc i n =>
    obtain rfl : len = 3 := hlen (fun _ _ _ _ h => by cases h)
    simp only [exec1] at h
    split at h
    · rename_i x hg
      obtain ⟨rfl, rfl, rfl, rfl⟩ := nx_inv h
      obtain ⟨k, hk⟩ := elv_idx (ad := ad) hg
      exact lv_iinc hx hb hdec hl hk rfl hok (elv_lset1 ad lv i (.int (x + Int32.ofInt n))) (fun ls' hl' => kk H locs ls' hl' hP hS)
    · cases h
  | iconst n =>
    obtain rfl : len = 1 := hlen (fun _ _ _ _ h => by cases h)
    obtain ⟨rfl, rfl, rfl, rfl⟩ := nx_inv h
    exact lv_iconst hx hb hdec rfl (kk H locs ls hl hP hS)
  | bipush n =>
    obtain rfl : len = 2 := hlen (fun _ _ _ _ h => by cases h)
    obtain ⟨rfl, rfl, rfl, rfl⟩ := nx_inv h
    exact lv_bipush hx hb hdec hok (kk H locs ls hl hP hS)
  | sipush n =>
    obtain rfl : len = 3 := hlen (fun _ _ _ _ h => by cases h)
    obtain ⟨rfl, rfl, rfl, rfl⟩ := nx_inv h
    exact lv_sipush hx hb hdec hok (kk H locs ls hl hP hS)
  | ldc idx =>
    obtain rfl : len = 2 := hlen (fun _ _ _ _ h => by cases h)
    obtain ⟨z, r, rfl, hw⟩ := hok
    obtain ⟨rfl, rfl, rfl, rfl⟩ := nx_inv h
    exact lv_ldc hx hb hown (hts _ hw) hdec (kk H locs ls hl hP hS)
  | ldc_w idx =>
    obtain rfl : len = 3 := hlen (fun _ _ _ _ h => by cases h)
    obtain ⟨z, r, rfl, hw⟩ := hok
    obtain ⟨rfl, rfl, rfl, rfl⟩ := nx_inv h
    exact lv_ldcw hx hb hown (hts _ hw) hdec (kk H locs ls hl hP hS)
  | ldc2_w idx =>
    obtain rfl : len = 3 := hlen (fun _ _ _ _ h => by cases h)
    obtain ⟨z, r, rfl, hw⟩ := hok
    obtain ⟨rfl, rfl, rfl, rfl⟩ := nx_inv h
    exact lv_ldc2 hx hb hown (hts _ hw) hdec (kk H locs ls hl hP hS)
  | lconst n =>
    obtain rfl : len = 1 := hlen (fun _ _ _ _ h => by cases h)
    obtain ⟨rfl, rfl, rfl, rfl⟩ := nx_inv h
    exact lv_lconst hx hb hdec rfl (kk H locs ls hl hP hS)
  | iadd =>
    obtain rfl : len = 1 := hlen (fun _ _ _ _ h => by cases h)
    obtain ⟨x, y, r, rfl, rfl, rfl, rfl, rfl⟩ := x2i_inv h
    exact lv_iadd hx hb hdec (kk H locs ls hl hP hS)
  | isub =>
    obtain rfl : len = 1 := hlen (fun _ _ _ _ h => by cases h)
    obtain ⟨x, y, r, rfl, rfl, rfl, rfl, rfl⟩ := x2i_inv h
    exact lv_isub hx hb hdec (kk H locs ls hl hP hS)
  | imul =>
    obtain rfl : len = 1 := hlen (fun _ _ _ _ h => by cases h)
    obtain ⟨x, y, r, rfl, rfl, rfl, rfl, rfl⟩ := x2i_inv h
    exact lv_imul hx hb hdec (kk H locs ls hl hP hS)
  | iand =>
    obtain rfl : len = 1 := hlen (fun _ _ _ _ h => by cases h)
    obtain ⟨x, y, r, rfl, rfl, rfl, rfl, rfl⟩ := x2i_inv h
    exact lv_iand hx hb hdec (kk H locs ls hl hP hS)
  | ior =>
    obtain rfl : len = 1 := hlen (fun _ _ _ _ h => by cases h)
    obtain ⟨x, y, r, rfl, rfl, rfl, rfl, rfl⟩ := x2i_inv h
    exact lv_ior hx hb hdec (kk H locs ls hl hP hS)
  | ixor =>
    obtain rfl : len = 1 := hlen (fun _ _ _ _ h => by cases h)
    obtain ⟨x, y, r, rfl, rfl, rfl, rfl, rfl⟩ := x2i_inv h
    exact lv_ixor hx hb hdec (kk H locs ls hl hP hS)
  | ishl =>
    obtain rfl : len = 1 := hlen (fun _ _ _ _ h => by cases h)
    obtain ⟨x, y, r, rfl, rfl, rfl, rfl, rfl⟩ := x2i_inv h
    exact lv_ishl hx hb hdec (kk H locs ls hl hP hS)
  | ishr =>
    obtain rfl : len = 1 := hlen (fun _ _ _ _ h => by cases h)
    obtain ⟨x, y, r, rfl, rfl, rfl, rfl, rfl⟩ := x2i_inv h
    exact lv_ishr hx hb hdec (kk H locs ls hl hP hS)
  | iushr =>
    obtain rfl : len = 1 := hlen (fun _ _ _ _ h => by cases h)
    obtain ⟨x, y, r, rfl, rfl, rfl, rfl, rfl⟩ := x2i_inv h
    exact lv_iushr hx hb hdec rfl (kk H locs ls hl hP hS)
  | idiv =>
    obtain rfl : len = 1 := hlen (fun _ _ _ _ h => by cases h)
    obtain ⟨x, y, r, rfl, h0, rfl, rfl, rfl, rfl⟩ := x2ic_inv h hc
    exact lv_idiv hx hb hdec h0 (kk H locs ls hl hP hS)
  | irem =>
    obtain rfl : len = 1 := hlen (fun _ _ _ _ h => by cases h)
    obtain ⟨x, y, r, rfl, h0, rfl, rfl, rfl, rfl⟩ := x2ic_inv h hc
    exact lv_irem hx hb hdec h0 (kk H locs ls hl hP hS)
  | ladd =>
    obtain rfl : len = 1 := hlen (fun _ _ _ _ h => by cases h)
    obtain ⟨x, y, r, rfl, rfl, rfl, rfl, rfl⟩ := x2l_inv h
    exact lv_ladd hx hb hdec (kk H locs ls hl hP hS)
  | lsub =>
    obtain rfl : len = 1 := hlen (fun _ _ _ _ h => by cases h)
    obtain ⟨x, y, r, rfl, rfl, rfl, rfl, rfl⟩ := x2l_inv h
    exact lv_lsub hx hb hdec (kk H locs ls hl hP hS)
  | lmul =>
    obtain rfl : len = 1 := hlen (fun _ _ _ _ h => by cases h)
    obtain ⟨x, y, r, rfl, rfl, rfl, rfl, rfl⟩ := x2l_inv h
    exact lv_lmul hx hb hdec (kk H locs ls hl hP hS)
  | ldiv =>
    obtain rfl : len = 1 := hlen (fun _ _ _ _ h => by cases h)
    obtain ⟨x, y, r, rfl, h0, rfl, rfl, rfl, rfl⟩ := x2lc_inv h hc
    exact lv_ldiv hx hb hdec h0 (kk H locs ls hl hP hS)
  | lrem =>
    obtain rfl : len = 1 := hlen (fun _ _ _ _ h => by cases h)
    obtain ⟨x, y, r, rfl, h0, rfl, rfl, rfl, rfl⟩ := x2lc_inv h hc
    exact lv_lrem hx hb hdec h0 (kk H locs ls hl hP hS)
  | ineg =>
    obtain rfl : len = 1 := hlen (fun _ _ _ _ h => by cases h)
    match st, h with
    | .int x :: r, h =>
      obtain ⟨rfl, rfl, rfl, rfl⟩ := nx_inv h
      exact lv_ineg hx hb hdec (kk H locs ls hl hP hS)
  | lneg =>
    obtain rfl : len = 1 := hlen (fun _ _ _ _ h => by cases h)
    match st, h with
    | .long x :: r, h =>
      obtain ⟨rfl, rfl, rfl, rfl⟩ := nx_inv h
      exact lv_lneg hx hb hdec (kk H locs ls hl hP hS)
  | lushr =>
    obtain rfl : len = 1 := hlen (fun _ _ _ _ h => by cases h)
    match st, h with
    | .int y :: .long x :: r, h =>
      obtain ⟨rfl, rfl, rfl, rfl⟩ := nx_inv h
      exact lv_lushr hx hb hdec rfl (kk H locs ls hl hP hS)
  | lcmp =>
    obtain rfl : len = 1 := hlen (fun _ _ _ _ h => by cases h)
    match st, h with
    | .long y :: .long x :: r, h =>
      obtain ⟨rfl, rfl, rfl, rfl⟩ := nx_inv h
      exact W.lcmp hx hb hdec (kk H locs ls hl hP hS)
  | i2l =>
    obtain rfl : len = 1 := hlen (fun _ _ _ _ h => by cases h)
    match st, h with
    | .int x :: r, h =>
      obtain ⟨rfl, rfl, rfl, rfl⟩ := nx_inv h
      exact lv_i2l hx hb hdec rfl (kk H locs ls hl hP hS)
  | l2i =>
    obtain rfl : len = 1 := hlen (fun _ _ _ _ h => by cases h)
    match st, h with
    | .long x :: r, h =>
      obtain ⟨rfl, rfl, rfl, rfl⟩ := nx_inv h
      exact lv_l2i hx hb hdec rfl (kk H locs ls hl hP hS)
  | ifCond cd off =>
    obtain rfl : len = 3 := hlen (fun _ _ _ _ h => by cases h)
    have kk' := kk H locs ls
    cases cd with
    | eq =>
      obtain ⟨x, r, rfl, rfl, rfl, rfl, rfl⟩ := xif_inv h
      exact lv_if_eq hx hb hdec hok (fun t => by have := kk' hl hP hS; dsimp only at this; rwa [if_pos t] at this) (fun t => by have := kk' hl hP hS; dsimp only at this; rwa [if_neg t] at this)
    | ne =>
      obtain ⟨x, r, rfl, rfl, rfl, rfl, rfl⟩ := xif_inv h
      exact lv_if_ne hx hb hdec hok (fun t => by have := kk' hl hP hS; dsimp only at this; rwa [if_pos t] at this) (fun t => by have := kk' hl hP hS; dsimp only at this; rwa [if_neg (fun q => q t)] at this)
    | lt =>
      obtain ⟨x, r, rfl, rfl, rfl, rfl, rfl⟩ := xif_inv h
      exact lv_if_lt hx hb hdec hok (fun t => by have := kk' hl hP hS; dsimp only at this; rwa [if_pos t] at this) (fun t => by have := kk' hl hP hS; dsimp only at this; rwa [if_neg t] at this)
    | ge =>
      obtain ⟨x, r, rfl, rfl, rfl, rfl, rfl⟩ := xif_inv h
      exact lv_if_ge hx hb hdec hok (fun t => by have := kk' hl hP hS; dsimp only at this; rwa [if_pos t] at this) (fun t => by have := kk' hl hP hS; dsimp only at this; rwa [if_neg t] at this)
    | gt =>
      obtain ⟨x, r, rfl, rfl, rfl, rfl, rfl⟩ := xif_inv h
      exact lv_if_gt hx hb hdec hok (fun t => by have := kk' hl hP hS; dsimp only at this; rwa [if_pos t] at this) (fun t => by have := kk' hl hP hS; dsimp only at this; rwa [if_neg t] at this)
    | le =>
      obtain ⟨x, r, rfl, rfl, rfl, rfl, rfl⟩ := xif_inv h
      exact lv_if_le hx hb hdec hok (fun t => by have := kk' hl hP hS; dsimp only at this; rwa [if_pos t] at this) (fun t => by have := kk' hl hP hS; dsimp only at this; rwa [if_neg t] at this)
  | if_icmp cd off =>
    obtain rfl : len = 3 := hlen (fun _ _ _ _ h => by cases h)
    have kk' := kk H locs ls
    cases cd with
    | eq =>
      obtain ⟨x, y, r, rfl, rfl, rfl, rfl, rfl⟩ := xif2_inv h
      exact lv_icmp_eq hx hb hdec hok (fun t => by have := kk' hl hP hS; dsimp only at this; rwa [if_pos t] at this) (fun t => by have := kk' hl hP hS; dsimp only at this; rwa [if_neg t] at this)
    | ne =>
      obtain ⟨x, y, r, rfl, rfl, rfl, rfl, rfl⟩ := xif2_inv h
      exact lv_icmp_ne hx hb hdec hok (fun t => by have := kk' hl hP hS; dsimp only at this; rwa [if_pos t] at this) (fun t => by have := kk' hl hP hS; dsimp only at this; rwa [if_neg (fun q => q t)] at this)
    | lt =>
      obtain ⟨x, y, r, rfl, rfl, rfl, rfl, rfl⟩ := xif2_inv h
      exact lv_icmp_lt hx hb hdec hok (fun t => by have := kk' hl hP hS; dsimp only at this; rwa [if_pos t] at this) (fun t => by have := kk' hl hP hS; dsimp only at this; rwa [if_neg t] at this)
    | ge =>
      obtain ⟨x, y, r, rfl, rfl, rfl, rfl, rfl⟩ := xif2_inv h
      exact lv_icmp_ge hx hb hdec hok (fun t => by have := kk' hl hP hS; dsimp only at this; rwa [if_pos t] at this) (fun t => by have := kk' hl hP hS; dsimp only at this; rwa [if_neg t] at this)
    | gt =>
      obtain ⟨x, y, r, rfl, rfl, rfl, rfl, rfl⟩ := xif2_inv h
      exact lv_icmp_gt hx hb hdec hok (fun t => by have := kk' hl hP hS; dsimp only at this; rwa [if_pos t] at this) (fun t => by have := kk' hl hP hS; dsimp only at this; rwa [if_neg t] at this)
    | le =>
      obtain ⟨x, y, r, rfl, rfl, rfl, rfl, rfl⟩ := xif2_inv h
      exact lv_icmp_le hx hb hdec hok (fun t => by have := kk' hl hP hS; dsimp only at this; rwa [if_pos t] at this) (fun t => by have := kk' hl hP hS; dsimp only at this; rwa [if_neg t] at this)
  | goto off =>
    obtain rfl : len = 3 := hlen (fun _ _ _ _ h => by cases h)
    obtain ⟨rfl, rfl, rfl, rfl⟩ := nx_inv h
    exact lv_goto hx hb hdec hok (kk H locs ls hl hP hS)
  | tableswitch df lo hi offs =>
    obtain ⟨x, r, rfl, rfl, rfl, rfl, rfl⟩ := xif_inv h
    obtain ⟨w1, w2, ⟨w3, w4⟩, w5⟩ := hok
    have k1 := kk H locs ls hl hP hS
    dsimp only at k1
    subst w2
    by_cases hz : x.toInt < lo ∨ lo + zs.length - 1 < x.toInt
    · rw [swt_out zs lo w3 w4 hz] at k1
      exact lv_tableOut hx hb hdec hz w1 k1
    · have z1 : ¬ x.toInt < lo := fun t => hz (Or.inl t)
      have z2 : ¬ lo + zs.length - 1 < x.toInt := fun t => hz (Or.inr t)
      rw [swt_in zs lo w3 w4 z1 z2] at k1
      obtain ⟨off, o1, o2⟩ := w5 (x.toInt - lo).toNat (by omega)
      exact lv_tableIn hx hb hdec z1 z2 o1 o2 k1
  | dup =>
    obtain rfl : len = 1 := hlen (fun _ _ _ _ h => by cases h)
    match st, h with
    | v :: r, h =>
      obtain ⟨h0, rfl, rfl, rfl, rfl⟩ := cx_inv h hc
      exact lv_dup hx hb hdec ((enc_cat ad v).trans h0) (kk H locs ls hl hP hS)
  | dup2 =>
    obtain rfl : len = 1 := hlen (fun _ _ _ _ h => by cases h)
    match st, h with
    | v :: w :: r, h =>
      obtain ⟨h0, rfl, rfl, rfl, rfl⟩ := cx_inv h hc
      exact lv_dup2_11 hx hb hdec ((enc_cat ad v).trans h0.1) ((enc_cat ad w).trans h0.2) (kk H locs ls hl hP hS)
  | iaload =>
    obtain rfl : len = 1 := hlen (fun _ _ _ _ h => by cases h)
    match st, h with
    | .int i :: .ref c9 :: r, h =>
      simp only [exec1] at h
      cases hd0 : (d == 0) with
      | true =>
        rw [hd0] at h
        obtain ⟨⟨h0, h1⟩, rfl, rfl, rfl, rfl⟩ := cx_inv h hc
        have hk : c9 < NC := ck_lt h0 (by decide)
        exact va_iald hx hb hK hP c9 0 (by rw [wld_get hk]; simp only [cel, h0]) rfl h1 hdec (kk H locs ls hl hP hS)
      | false =>
        rw [hd0] at h
        cases hd1 : (d == 1) with
        | true =>
          rw [hd1] at h
          obtain ⟨⟨⟨g1, g2⟩, h1⟩, rfl, rfl, rfl, rfl⟩ := cx_inv h hc
          have hz := stc_at hSt g1 g2
          exact va_ti hx hb hz hS h1 rfl hdec (kk H locs ls hl hP hS)
        | false =>
          rw [hd1] at h
          match X, hX, h with
          | some x, hX, h =>
            obtain ⟨⟨rfl, h1⟩, rfl, rfl, rfl, rfl⟩ := cx_inv h hc
            obtain ⟨g1, g2, g3, g4⟩ := hX x rfl
            exact va_sld hx hb g2 g3 g4 hS h1 hdec (kk H locs ls hl hP hS)
  | laload =>
    obtain rfl : len = 1 := hlen (fun _ _ _ _ h => by cases h)
    match st, h with
    | .int i :: .ref c9 :: r, h =>
      obtain ⟨⟨h0, h1⟩, rfl, rfl, rfl, rfl⟩ := cx_inv h hc
      have hk : c9 < NC := ck_lt h0 (by decide)
      exact va_lald hx hb hK hP c9 1 (by rw [wld_get hk]; simp only [cel, h0]) rfl h1 hdec (kk H locs ls hl hP hS)
  | baload =>
    obtain rfl : len = 1 := hlen (fun _ _ _ _ h => by cases h)
    match st, h with
    | .int i :: .ref c9 :: r, h =>
      obtain ⟨⟨h0, h1⟩, rfl, rfl, rfl, rfl⟩ := cx_inv h hc
      have hk : c9 < NC := ck_lt h0 (by decide)
      exact va_zald hx hb hK hP c9 2 (by rw [wld_get hk]; simp only [cel, h0]) rfl h1 hdec (kk H locs ls hl hP hS)
  | aaload =>
    obtain rfl : len = 1 := hlen (fun _ _ _ _ h => by cases h)
    match st, h with
    | .int i :: .ref c9 :: r, h =>
      obtain ⟨⟨h0, h1⟩, rfl, rfl, rfl, rfl⟩ := cx_inv h hc
      have hlt : i.toNatClampNeg < al c9 := Nat.not_le.mp fun q => h1 (Or.inr q)
      rcases h0 with h0 | h0
      · have hk : c9 < NC := ck_lt h0 (by decide)
        have hcell := hP c9 _ (wld_get hk)
        simp only [va_at, cel, h0] at hcell
        exact W.aald (v := .ref (ad (c9 + 1 + i.toNatClampNeg))) (ty := .array .int) hx hb hcell ((hK.2 3 _ rfl).1 (al c9) (fun j => va_rf (some (ad (c9 + 1 + j))))) rfl (fun q => by cases q) (by show ¬ (i < 0 ∨ (arrV _ _ _).slots.size ≤ _); rw [arrV_size]; exact h1) (by show (arrV _ _ _).slots[_]? = _; rw [arrV_read _ _ hlt]; rfl) rfl rfl hdec (kk H locs ls hl hP hS)
      · have hk : c9 < NC := ck_lt h0 (by decide)
        have hcell := hP c9 _ (wld_get hk)
        simp only [va_at, cel, h0] at hcell
        exact W.aald (v := .ref (ad (c9 + 1 + i.toNatClampNeg))) (ty := .array .long) hx hb hcell ((hK.2 4 _ rfl).1 (al c9) (fun j => va_rf (some (ad (c9 + 1 + j))))) rfl (fun q => by cases q) (by show ¬ (i < 0 ∨ (arrV _ _ _).slots.size ≤ _); rw [arrV_size]; exact h1) (by show (arrV _ _ _).slots[_]? = _; rw [arrV_read _ _ hlt]; rfl) rfl rfl hdec (kk H locs ls hl hP hS)
  | iastore =>
    obtain rfl : len = 1 := hlen (fun _ _ _ _ h => by cases h)
    match st, h with
    | .int x :: .int i :: .ref c9 :: r, h =>
      obtain ⟨⟨h0, h1⟩, rfl, rfl, rfl, rfl⟩ := cx_inv h hc
      have hk : c9 < NC := ck_lt h0 (by decide)
      refine va_iast (f := σ.1 c9) hx hb hK hP hD hS c9 0 (by rw [wld_get hk]; simp only [cel, h0]) rfl h1 hdec (fun H1 locs1 hP1 hD1 hS1 => kk H1 locs1 ls hl ?_ hS1)
      have e := wld_set (tc := tc) (ad := ad) (σ := σ) (σ2 := si σ c9 i.toNatClampNeg x) hk (fun j hj => cel_si hj)
      rw [show cel tc ad (si σ c9 i.toNatClampNeg x) c9 = .inl (tc 0, al c9, .inl (upd (σ.1 c9) i.toNatClampNeg x)) by simp only [cel, h0]; simp [si]] at e
      rw [← e]
      exact hP1
  | lastore =>
    obtain rfl : len = 1 := hlen (fun _ _ _ _ h => by cases h)
    match st, h with
    | .long x :: .int i :: .ref c9 :: r, h =>
      obtain ⟨⟨h0, h1⟩, rfl, rfl, rfl, rfl⟩ := cx_inv h hc
      have hk : c9 < NC := ck_lt h0 (by decide)
      refine va_last (f := σ.2 c9) hx hb hK hP hD hS c9 1 (by rw [wld_get hk]; simp only [cel, h0]) rfl h1 hdec (fun H1 locs1 hP1 hD1 hS1 => kk H1 locs1 ls hl ?_ hS1)
      have e := wld_set (tc := tc) (ad := ad) (σ := σ) (σ2 := sl σ c9 i.toNatClampNeg x) hk (fun j hj => cel_sl hj)
      rw [show cel tc ad (sl σ c9 i.toNatClampNeg x) c9 = .inl (tc 1, al c9, .inr (.inl (vp_updL (σ.2 c9) i.toNatClampNeg x))) by simp only [cel, h0]; simp [sl]] at e
      rw [← e]
      exact hP1
  | bastore =>
    obtain rfl : len = 1 := hlen (fun _ _ _ _ h => by cases h)
    match st, h with
    | .int x :: .int i :: .ref c9 :: r, h =>
      obtain ⟨⟨h0, h1⟩, rfl, rfl, rfl, rfl⟩ := cx_inv h hc
      have hk : c9 < NC := ck_lt h0 (by decide)
      refine va_zast (f := σ.1 c9) hx hb hK hP hD hS c9 2 (by rw [wld_get hk]; simp only [cel, h0]) rfl h1 hdec (fun H1 locs1 hP1 hD1 hS1 => kk H1 locs1 ls hl ?_ hS1)
      have e := wld_set (tc := tc) (ad := ad) (σ := σ) (σ2 := si σ c9 i.toNatClampNeg (x &&& 1)) hk (fun j hj => cel_si hj)
      rw [show cel tc ad (si σ c9 i.toNatClampNeg (x &&& 1)) c9 = .inl (tc 2, al c9, .inl (upd (σ.1 c9) i.toNatClampNeg (x &&& 1))) by simp only [cel, h0]; simp [si]] at e
      rw [← e]
      exact hP1
  | arraylength =>
    obtain rfl : len = 1 := hlen (fun _ _ _ _ h => by cases h)
    match st, h with
    | .ref c9 :: r, h =>
      simp only [exec1] at h
      cases hd0 : (d == 0) with
      | true =>
        rw [hd0] at h
        obtain ⟨h0, rfl, rfl, rfl, rfl⟩ := cx_inv h hc
        have hk : c9 < NC := ck_lt rfl (by omega)
        have k1 := kk H locs ls hl hP hS
        have h5 : ck c9 = 0 ∨ ck c9 = 1 ∨ ck c9 = 2 ∨ ck c9 = 3 ∨ ck c9 = 4 := by omega
        rcases h5 with h5 | h5 | h5 | h5 | h5
        · exact va_alen (x := (al c9, .inl (σ2.1 c9))) hx hb hK hP c9 0 (by rw [wld_get hk]; simp only [cel, h5]) rfl rfl hdec k1
        · exact va_alen (x := (al c9, .inr (.inl (σ2.2 c9)))) hx hb hK hP c9 1 (by rw [wld_get hk]; simp only [cel, h5]) rfl rfl hdec k1
        · exact va_alen (x := (al c9, .inl (σ2.1 c9))) hx hb hK hP c9 2 (by rw [wld_get hk]; simp only [cel, h5]) rfl rfl hdec k1
        · exact va_alen (x := (al c9, .inr (.inr (.inr (.inr fun j => some (ad (c9 + 1 + j))))))) hx hb hK hP c9 3 (by rw [wld_get hk]; simp only [cel, h5]) rfl rfl hdec k1
        · exact va_alen (x := (al c9, .inr (.inr (.inr (.inr fun j => some (ad (c9 + 1 + j))))))) hx hb hK hP c9 4 (by rw [wld_get hk]; simp only [cel, h5]) rfl rfl hdec k1
      | false =>
        rw [hd0] at h
        cases hd1 : (d == 1) with
        | true =>
          rw [hd1] at h
          obtain ⟨⟨g1, g2⟩, rfl, rfl, rfl, rfl⟩ := cx_inv h hc
          have hz := stc_at hSt g1 g2
          exact va_tlen hx hb hz hS rfl hdec (kk H locs ls hl hP hS)
        | false =>
          rw [hd1] at h
          match X, hX, h with
          | some x, hX, h =>
            obtain ⟨rfl, rfl, rfl, rfl, rfl⟩ := cx_inv h hc
            obtain ⟨g1, g2, g3, g4⟩ := hX x rfl
            exact va_slen hx hb g2 g3 g4 hS hdec (kk H locs ls hl hP hS)
  | getfield idx =>
    obtain rfl : len = 3 := hlen (fun _ _ _ _ h => by cases h)
    obtain ⟨C, T, N, ty0, w1, rfl, w3, w4, w5, w6, w7, w8, -⟩ := hok
    match st, h with
    | .ref c9 :: r, h =>
      simp only [exec1] at h
      have fin : ∀ v : Value, ck c9 = 5 + a → fvl ad σ a c9 b = v → W p l e R s m args below meth c H locs cells slots Qs (F0 m (pc + 3) ls (v :: est ad r)) → W p l e R s m args below meth c H locs cells slots Qs (F0 m pc ls (est ad (.ref c9 :: r))) := by
        intro v h0 hv k1
        have hk : c9 < NC := ck_nc (by have h1 : a < 9 := (List.getElem?_eq_some_iff.mp w1).1; omega)
        exact va_get hx hb hts w5 hown hK hP c9 (fs := (List.range (nf a)).map (fvl ad σ a c9)) (by rw [wld_get hk]; simp only [cel]; rw [show ck c9 = a + 5 by omega]) w1 b w3 (hts _ w6) (fun _ h9 => h9) (v := v) (by rw [List.getElem?_map, List.getElem?_range w3, ← hv]; rfl) hdec k1
      cases hd1 : (d == 1) with
      | true =>
        rw [hd1] at h
        obtain ⟨h0, rfl, rfl, rfl, rfl⟩ := cx_inv h hc
        have hd : d = 1 := by simpa using hd1
        exact fin (.long (σ2.2 c9 b)) h0 (by unfold fvl; rw [w4, hd]; rfl) (kk H locs ls hl hP hS)
      | false =>
        rw [hd1] at h
        cases hd2 : (d == 2) with
        | true =>
          rw [hd2] at h
          obtain ⟨h0, rfl, rfl, rfl, rfl⟩ := cx_inv h hc
          have hd : d = 2 := by simpa using hd2
          exact fin (.ref (ad (rf c9 b))) h0 (by unfold fvl; rw [w4, hd]; rfl) (kk H locs ls hl hP hS)
        | false =>
          rw [hd2] at h
          obtain ⟨h0, rfl, rfl, rfl, rfl⟩ := cx_inv h hc
          have n1 : d ≠ 1 := by simpa using hd1
          have n2 : d ≠ 2 := by simpa using hd2
          exact fin (.int (σ2.1 c9 b)) h0 (by unfold fvl; rw [w4]; split <;> first | rfl | (exfalso; omega)) (kk H locs ls hl hP hS)
  | putfield idx =>
    obtain rfl : len = 3 := hlen (fun _ _ _ _ h => by cases h)
    obtain ⟨C, T, N, ty0, w1, rfl, w3, w4, w5, w6, w7, w8, w9⟩ := hok
    obtain ⟨wf, wt⟩ := w9 rfl
    have fin : ∀ (v : Value) (c9 : Nat) (r : List Value) (σ3 : Sg), ck c9 = 5 + a → narrow (ty0 b) v = v → fits (ty0 b) v = true → (List.range (nf a)).map (fvl ad σ3 a c9) = ((List.range (nf a)).map (fvl ad σ a c9)).set b v → (∀ j, j ≠ c9 → cel tc ad σ3 j = cel tc ad σ j) →
        Wk (D := D) p l e R s m args below meth c cells slots Qs tc ad A nL (pc + 3, lv, r, σ3) → W p l e R s m args below meth c H locs cells slots Qs (F0 m pc ls (v :: .ref (ad c9) :: est ad r)) := by
      intro v c9 r σ3 h0 hn hf hs ho k1
      have hk : c9 < NC := ck_nc (by have h1 : a < 9 := (List.getElem?_eq_some_iff.mp w1).1; omega)
      refine va_put hx hb hts w5 ty0 w7 w8 hown hK hP hD hS c9 (fs := (List.range (nf a)).map (fvl ad σ a c9)) (by rw [wld_get hk, cel_obj h0]) w1 b w3 (hts _ w6) (fun _ h9 => h9) wf (w7 b w3) hn hf (by simpa using w3) hdec (fun H1 locs1 hP1 hD1 hS1 => k1 H1 locs1 ls hl ?_ hS1)
      have e := wld_set (tc := tc) (ad := ad) (σ := σ) (σ2 := σ3) hk ho
      rw [cel_obj h0, hs] at e
      rw [← e]
      exact hP1
    match st, h with
    | .int x :: .ref c9 :: r, h =>
      simp only [exec1] at h
      cases hd0 : (d == 0) with
      | true =>
        rw [hd0] at h
        obtain ⟨h0, rfl, rfl, rfl, rfl⟩ := cx_inv h hc
        obtain rfl : d = 0 := by simpa using hd0
        exact fin (.int x) c9 st2 _ h0 (by rw [wt]; rfl) (by rw [wt]; rfl) (fvl_si w3 (by omega) (by omega)) (fun j hj => cel_si hj) kk
      | false =>
        rw [hd0] at h
        cases hd3 : (d == 3) with
        | true =>
          rw [hd3] at h
          obtain ⟨⟨h0, h1⟩, rfl, rfl, rfl, rfl⟩ := cx_inv h hc
          obtain rfl : d = 3 := by simpa using hd3
          exact fin (.int x) c9 st2 _ h0 (by rw [wt]; exact (nb_fit h1).1) (by rw [wt]; exact (nb_fit h1).2) (fvl_si w3 (by omega) (by omega)) (fun j hj => cel_si hj) kk
        | false =>
          rw [hd3] at h
          cases h
    | .long x :: .ref c9 :: r, h =>
      simp only [exec1] at h
      cases hd1 : (d == 1) with
      | true =>
        rw [hd1] at h
        obtain ⟨h0, rfl, rfl, rfl, rfl⟩ := cx_inv h hc
        obtain rfl : d = 1 := by simpa using hd1
        exact fin (.long x) c9 st2 _ h0 (by rw [wt]; rfl) (by rw [wt]; rfl) (fvl_sl w3 w4) (fun j hj => cel_sl hj) kk
      | false =>
        rw [hd1] at h
        cases h
  | getstatic idx =>
    obtain rfl : len = 3 := hlen (fun _ _ _ _ h => by cases h)
    obtain ⟨i, h1, rfl, hw⟩ := hok
    obtain ⟨rfl, rfl, rfl, rfl⟩ := nx_inv h
    rcases hw with hw | ⟨host, hw⟩
    · exact va_gets hx hb (hSt i h1).1 hS hown (hts _ hw) (fun _ h9 => h9) hdec (kk H locs ls hl hP hS)
    · exact va_getsN hx hb (hSt i h1).1 hS hown (va_Nw.use rfl (hNs _ hw rfl)) (fun _ h9 => h9) hdec (kk H locs ls hl hP hS)
  | invokestatic idx =>
    obtain rfl : len = 3 := hlen (fun _ _ _ _ h => by cases h)
    simp only [exec1] at h
    cases hd7 : (d == 7) with
    | false =>
      rw [hd7] at h
      have hcatx : ∀ r : List Value, (r.map fun v => v.category).sum ≤ 8 → ((r.map (enc ad)).map fun v => v.category).sum + 13 ≤ R.locals := fun r h8 => by
        have h1 := est_cat ad r
        unfold est at h1
        rw [h1]
        have := hRm.2
        omega
      cases hd8 : (d == 8) with
      | true =>
        rw [hd8] at h
        obtain ⟨w1, w2, w3, w4⟩ := hok.2.2.1 (by simpa using hd8)
        match st, h with
        | .int x :: r, h =>
          obtain ⟨g, rfl, rfl, rfl, rfl⟩ := cx_inv h hc
          exact va_mabs hx hb (hml.trans hl.1.symm) hown (hts _ w1) (hts _ w2) (hts _ w3) (hts _ w4) hRm.1 (hcatx _ g) hbud.1 hbud.2 hdec (kk H locs ls hl hP hS)
      | false =>
        rw [hd8] at h
        cases hd9 : (d == 9) with
        | true =>
          rw [hd9] at h
          obtain ⟨w1, w2, w3, w4⟩ := hok.2.2.2.1 (by simpa using hd9)
          match st, h with
          | .long x :: r, h =>
            obtain ⟨g, rfl, rfl, rfl, rfl⟩ := cx_inv h hc
            exact va_mabs_long hx hb (hml.trans hl.1.symm) hown (hts _ w1) (hts _ w2) (hts _ w3) (hts _ w4) hRm.1 (hcatx _ g) hbud.1 hbud.2 hdec (kk H locs ls hl hP hS)
        | false =>
          rw [hd9] at h
          cases hd10 : (d == 10) with
          | true =>
            rw [hd10] at h
            obtain ⟨w1, w2, w3, w4⟩ := hok.2.2.2.2.1 (by simpa using hd10)
            match st, h with
            | .int y :: .int x :: r, h =>
              obtain ⟨g, rfl, rfl, rfl, rfl⟩ := cx_inv h hc
              exact va_mmax hx hb (hml.trans hl.1.symm) hown (hts _ w1) (hts _ w2) (hts _ w3) (hts _ w4) hRm.1 (hcatx _ g) hbud.1 hbud.2 hdec (kk H locs ls hl hP hS)
          | false =>
            rw [hd10] at h
            cases hd11 : (d == 11) with
            | true =>
              rw [hd11] at h
              obtain ⟨w1, w2, w3, w4⟩ := hok.2.2.2.2.2 (by simpa using hd11)
              match st, h with
              | .int y :: .int x :: r, h =>
                obtain ⟨g, rfl, rfl, rfl, rfl⟩ := cx_inv h hc
                exact va_mmin hx hb (hml.trans hl.1.symm) hown (hts _ w1) (hts _ w2) (hts _ w3) (hts _ w4) hRm.1 (hcatx _ g) hbud.1 hbud.2 hdec (kk H locs ls hl hP hS)
            | false =>
              rw [hd11] at h
              cases h
    | true =>
      rw [hd7] at h
      obtain rfl : d = 7 := by simpa using hd7
      obtain ⟨w1, w2, w3, w4⟩ := hok.1 rfl
      match st, h with
      | .int n :: .int dp :: .ref c1 :: .int sp :: .ref c0 :: r, h =>
        obtain ⟨⟨⟨g0, g1, g2⟩, ⟨g3, g4, g5⟩, g6, g7⟩, rfl, rfl, rfl, rfl⟩ := cx_inv h hc
        have hk0 : c0 < NC := ck_lt g0 (by decide)
        have hk1 : c1 < NC := ck_lt g1 (by decide)
        refine va_copyi (f := σ.1 c0) (g := σ.1 c1) (c1 := tc 0) (n1 := al c1) hx hb (hml.trans hl.1.symm) hown (hts _ w1) (hts _ w2) (hts _ w3) (hts _ w4) hK hP hD hS c0 c1 0 0 (by rw [wld_get hk0]; simp only [cel, g0]) (by rw [wld_get hk1]; simp only [cel, g1]) rfl rfl rfl g3 g4 g5 g6 g7 (fun _ _ => rfl) hRm.1 ?_ hdec (fun H1 locs1 hP1 hD1 hS1 => kk H1 locs1 ls hl ?_ hS1)
        · have hcat := est_cat ad st2
          unfold est at hcat
          rw [hcat]
          have : nativeFrameWords "java/lang/System" "arraycopy" 5 + 11 ≤ 56 := by decide +kernel
          have h64 := hRm.2
          omega
        · have e := wld_set (tc := tc) (ad := ad) (σ := σ) (σ2 := scp σ c0 c1 sp.toNatClampNeg dp.toNatClampNeg n.toNatClampNeg) hk1 (fun j hj => cel_scp hj)
          rw [show cel tc ad (scp σ c0 c1 sp.toNatClampNeg dp.toNatClampNeg n.toNatClampNeg) c1 = .inl (tc 0, al c1, .inl (va_cpy (σ.1 c0) (σ.1 c1) sp.toNatClampNeg dp.toNatClampNeg n.toNatClampNeg)) by simp only [cel, g1]; simp [scp]] at e
          rw [← e]
          exact hP1
  | _ => first | (simp [exec1] at h; done) | cases h
end SND
