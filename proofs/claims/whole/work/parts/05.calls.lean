/-! ===== calls, returns, a method's contract out of the small machine ===== -/
def rmL (d : Nat) : Room := { frames := d, cells := 0, slots := 0, locals := 64 * d }
theorem conj_app : ∀ {a b : List Prop}, conj (a ++ b) → conj a ∧ conj b
  | [], _, h => ⟨trivial, h⟩
  | _ :: _, _, h => ⟨⟨h.1, (conj_app h.2).1⟩, (conj_app h.2).2⟩
theorem popn_spec : ∀ (n : Nat) (acc st as r : List Value), popn n acc st = some (as, r) → ∃ zs, zs.length = n ∧ st = zs ++ r ∧ as = zs.reverse ++ acc
  | 0, acc, st, as, r, h => by
    simp only [popn, Option.some.injEq, Prod.mk.injEq] at h
    obtain ⟨rfl, rfl⟩ := h
    exact ⟨[], rfl, rfl, rfl⟩
  | n + 1, acc, [], as, r, h => by cases h
  | n + 1, acc, v :: st, as, r, h => by
    obtain ⟨zs, h1, h2, h3⟩ := popn_spec n (v :: acc) st as r h
    exact ⟨v :: zs, by simp [h1], by rw [h2]; rfl, by rw [h3]; simp⟩
theorem popn_nil {n : Nat} {st as r : List Value} (h : popn n [] st = some (as, r)) : as.length = n ∧ st = as.reverse ++ r := by
  obtain ⟨zs, h1, h2, h3⟩ := popn_spec n [] st as r h
  simp only [List.append_nil] at h3
  subst h3
  exact ⟨by simpa using h1, by simpa using h2⟩
def PcM (D : va_G) (tc : Nat → ClassId) (ad : Nat → Nat) (as : List Value) (σ : Sg) : Array Value → State → Prop := va_Pc (est ad as) (fun U => va_P D cl (wld tc ad σ) U.heap ∧ va_K D cl (tys tc) U ∧ Stc (inA ad) ad U U.heap ∧ Nst U)
def QcM (D : va_G) (tc : Nat → ClassId) (ad : Nat → Nat) (P : Option Value → Sg → Prop) : Array Value → State → Outcome → State → Prop := fun _ st oc t => (∃ v σ2, oc = .returned (v.map (enc ad)) ∧ P v σ2 ∧ va_P D cl (wld tc ad σ2) t.heap) ∧ va_F (inA ad) st t
theorem PcM.blind (D : va_G) (tc : Nat → ClassId) (ad : Nat → Nat) (as : List Value) (σ : Sg) : FrameBlind (PcM D tc ad as σ) := fun a U g mk q => by
  obtain ⟨q0, q1, q2, q3, q4⟩ := q
  exact ⟨q0, q1, va_K.moved (u := U) (U := U.calling g mk a) (Vm.Alike.refl U.vm) q2, Stc.moved (u := U) (U := U.calling g mk a) (Vm.Alike.refl U.vm) q3, Nst.same (u := U) (U := U.calling g mk a) rfl q4⟩
def MetM (M : Nat → MI) (l : Launch) (D : va_G) (tc : Nat → ClassId) (ad : Nat → Nat) (d mid : Nat) (as : List Value) (σ : Sg) (P : Option Value → Sg → Prop) : Prop :=
  Met l (M mid).1 (Cond.code (M mid).1 (M mid).2.1 (M mid).2.2.1 (M mid).2.2.2 :: TB) (rmL d) (PcM D tc ad as σ) (QcM D tc ad P) 0 0 (inA ad)
section SND2
variable {p : Program} {l : Launch} {e : Env} {R : Room} {s : State} {m : MethodId} {args : Array Value} {below : List Frame} {meth : Method} {c : Code} {cells slots : Nat} {Qs : State → Prop}
variable {D : va_G} {tc : Nat → ClassId} {ad : Nat → Nat} {A : Nat → Prop} {own : String} {cc : ByteArray} {nL : Nat} {X : RO} {M : Nat → MI}
theorem blk_ok (F : Fx p R s m args c D tc ad A own cc nL X) (hbud : cells ≤ R.cells ∧ slots ≤ R.slots) : ∀ (L : List Ent), (∀ en ∈ L, EntOK M own cc nL en) → ∀ (q : PS) (cs : List Prop) (q2 : PS), blk X L q = some (cs, q2) → conj cs →
    Wk (D := D) p l e R s m args below meth c cells slots Qs tc ad A nL q2 → Wk (D := D) p l e R s m args below meth c cells slots Qs tc ad A nL q
  | [], _, q, cs, q2, h, _, kk => by
    simp only [blk, Option.some.injEq, Prod.mk.injEq] at h
    rw [h.2]
    exact kk
  | en :: L, hok, (pc, lv, st, σ), cs, q2, h, hc, kk => by
    simp only [blk] at h
    cases hb : (en.1 == pc) with
    | false => rw [hb] at h; cases h
    | true =>
      rw [hb] at h
      have hpc : en.1 = pc := by simpa using hb
      simp only [cond_true] at h
      split at h
      · cases h
      · rename_i c1 s1 h1
        split at h
        · cases h
        · rename_i c2 s2 h2
          simp only [Option.some.injEq, Prod.mk.injEq] at h
          obtain ⟨rfl, rfl⟩ := h
          obtain ⟨hc1, hc2⟩ := conj_app hc
          have k2 := blk_ok F hbud L (fun en hen => hok en (List.mem_cons_of_mem _ hen)) s1 c2 s2 h2 hc2 kk
          obtain ⟨pc1, lv1, st1, σ1⟩ := s1
          rw [← hpc]
          exact exec1_ok F hbud (hok en List.mem_cons_self) h1 hc1 k2
theorem run_ok {H : Heap} {locs : List Loc} {pc : Nat} {lv : LV} {ls : Array Slot} {st0 r : List Value} {P : Option Value → Sg → Prop} {a : Array Value} (hAd : ∀ q, inA ad q → A q) (hl : lv_has ls nL (elv ad lv)) (hr : va_Run p l e R s m args below meth c H locs cells slots 0 0 (F0 m pc ls st0) (est ad r) (QcM D tc ad P a) (inA ad)) (hS : va_S A s.heap H locs)
    (kk : ∀ v σ2, P v σ2 → Wk (D := D) p l e R s m args below meth c cells slots Qs tc ad A nL (pc + 3, lv, v.toList ++ r, σ2)) : W p l e R s m args below meth c H locs cells slots Qs (F0 m pc ls st0) := by
  intro T hT X
  obtain ⟨v, st₀, t, T', L, h0, X', hL, e1, e2, ⟨⟨v2, σ2, hv, hp, hP⟩, hz, hk⟩, st⟩ := hr T hT X
  cases hv
  rw [h0] at hz hk
  have k1 := kk v2 σ2 hp T'.heap (locs ++ L) ls hl (by rw [e1]; exact hP) ⟨Nat.le_trans hS.1 (by rw [e1]; exact hz), fun q h1 h2 => by rw [e1, hk q (Nat.lt_of_lt_of_le h1 hS.1) (fun z => h2 (hAd q z))]; exact hS.2.1 q h1 h2, fun q hq => by
      rcases List.mem_append.mp hq with h | h
      · exact hS.2.2 q h
      · exact hAd _ (hL q h)⟩
  obtain ⟨t2, a1, b1⟩ := k1 T' rfl X'
  refine ⟨t2, st t2 ?_, b1⟩
  have es : est ad (v2.toList ++ r) = (v2.map (enc ad)).toList ++ est ad r := by cases v2 <;> simp [est]
  dsimp only at a1
  rw [es] at a1
  exact a1
theorem call_ok (F : Fx p R s m args c D tc ad A own cc nL X) {en : Ent} (hok : EntOK M own cc nL en) {lv : LV} {st : List Value} {σ : Sg} {cp : Prop} {as r : List Value} {P : Option Value → Sg → Prop} {d0 : Nat} (h : icall en st = some (cp, as, r)) (hc : cp) (hM : MetM M l D tc ad d0 en.2.2.2.1 as σ P) (hd : d0 + 1 ≤ R.frames ∧ 64 * (d0 + 1) ≤ R.locals) (hbud : cells ≤ R.cells ∧ slots ≤ R.slots)
    (kk : ∀ v σ2, P v σ2 → Wk (D := D) p l e R s m args below meth c cells slots Qs tc ad A nL (en.1 + 3, lv, v.toList ++ r, σ2)) : Wk (D := D) p l e R s m args below meth c cells slots Qs tc ad A nL (en.1, lv, st, σ) := by
  obtain ⟨hx, hb, hml, hown, hts, hK, hinj, hAd, ⟨hSt, hNs⟩, hRm, hX⟩ := F
  obtain ⟨pc, ins, len, a, b, d, zs⟩ := en
  obtain ⟨hdec, hok, hlen⟩ := hok
  intro H locs ls hl hP hS
  dsimp only at hdec hlen hok hl hP hS hM kk ⊢
  have hpre : ∀ U : State, U.heap = H → s.WarmedH U.vm → va_P D cl (wld tc ad σ) U.heap ∧ va_K D cl (tys tc) U ∧ Stc (inA ad) ad U U.heap ∧ Nst U := fun U hU hW => ⟨by rw [hU]; exact hP, va_K.moved hW.alike hK, by
    rw [hU]
    exact Stc.narrow (Stc.moved hW.alike (hSt.kept (fun q h1 h2 => hS.2.1 q h1 h2))) hAd, Nst.warm hW hNs⟩
  have hlo : (M a).2.2.1 ≤ 45 → 8 + ((M a).2.2.1 + 11) + (rmL d0).locals ≤ R.locals := fun h => by
    show 8 + ((M a).2.2.1 + 11) + 64 * d0 ≤ R.locals
    omega
  cases ins with
  | invokevirtual idx =>
    obtain rfl : len = 3 := hlen (fun _ _ _ _ h => by cases h)
    obtain ⟨⟨w0, w1, w2, w3, w4⟩, w5, w6, w7, q, w8, w9⟩ := hok
    simp only [icall] at h
    split at h
    · rename_i as2 c9 r2 hp
      simp only [Option.some.injEq, Prod.mk.injEq] at h
      obtain ⟨rfl, rfl, rfl⟩ := h
      obtain ⟨h0, h1⟩ := hc
      obtain ⟨e1, rfl⟩ := popn_nil hp
      have hk : c9 < NC := ck_nc (by have h1 : d < 9 := (List.getElem?_eq_some_iff.mp w8).1; omega)
      have hrecv := va_recv hK hP (q0 := c9) (ci := d) w8 (by rw [wld_get hk, cel_obj h0])
      rw [w9] at hrecv
      refine run_ok hAd hl (va_runV (As := est ad as2) (rest := est ad r2) (n := b) ⟨hx, hb, hml, hown, hts⟩ hM ⟨callB_of b hts (tb_goodIn w1) rfl rfl rfl (hts _ w2) (hts _ w5) ⟨w3.1, w3.2, w4⟩ ⟨hd.1, hlo w0⟩, hts _ w6, hts _ w7⟩ ⟨PcM.blind _ _ _ _ _, hrecv, fun U hU hW => ⟨rfl, hpre U hU hW⟩⟩ rfl (by simpa [est] using e1) hl.1 ?_ (lv_room (by rw [est_cat]; exact h1)) hdec ⟨hbud.1, hbud.2⟩) hS kk
      simp [est, enc, F0]
    · cases h
  | invokestatic idx =>
    obtain rfl : len = 3 := hlen (fun _ _ _ _ h => by cases h)
    simp only [icall] at h
    cases hd7 : (Nat.blt 6 d) with
    | true => rw [hd7] at h; cases h
    | false =>
      rw [hd7] at h
      obtain ⟨⟨w0, w1, w2, w3, w4⟩, w5, w6⟩ := hok.2.1 (fun q => by rw [Nat.blt_eq.mpr q] at hd7; cases hd7)
      simp only [cond_false] at h
      split at h
      · rename_i as2 r2 hp
        simp only [Option.some.injEq, Prod.mk.injEq] at h
        obtain ⟨rfl, rfl, rfl⟩ := h
        obtain ⟨e1, rfl⟩ := popn_nil hp
        have hst0 : est ad (as2.reverse ++ r2) = (est ad as2).reverse ++ est ad r2 := by simp [est]
        rcases w5 with w5 | ⟨host, w5⟩
        · exact run_ok hAd hl (va_runS (As := est ad as2) (rest := est ad r2) (n := b) ⟨hx, hb, hml, hown, hts⟩ hM ⟨callB_of b hts (tb_goodIn w1) rfl rfl rfl (hts _ w2) (hts _ w5) ⟨w3.1, w3.2, w4⟩ ⟨hd.1, hlo w0⟩, hts _ w6⟩ ⟨PcM.blind _ _ _ _ _, fun U hU hW => ⟨rfl, hpre U hU hW⟩⟩ rfl (by simpa [est] using e1) hl.1 hst0 (lv_room (by rw [est_cat]; exact hc)) hdec ⟨hbud.1, hbud.2⟩) hS kk
        · exact run_ok hAd hl (va_runSN (As := est ad as2) (rest := est ad r2) (n := b) (host := host) ⟨hx, hb, hml, hown, hts⟩ hM ⟨va_cnB b hts (tb_goodIn w1) rfl rfl rfl (hNs _ w5 rfl) (hts _ w2) ⟨w3.1, w3.2, w4⟩ ⟨hd.1, hlo w0⟩, hts _ w6, trivial⟩ ⟨PcM.blind _ _ _ _ _, fun U hU hW => ⟨rfl, hpre U hU hW⟩⟩ rfl (by simpa [est] using e1) hl.1 hst0 (lv_room (by rw [est_cat]; exact hc)) hdec ⟨hbud.1, hbud.2⟩) hS kk
      · cases h
  | _ => first | (simp [icall] at h; done) | cases h
theorem Rch_ok (F : Fx p R s m args c D tc ad A own cc nL X) {cs : List (List Ent)} {G : Env1} {Q : Option Value → Sg → Prop} (hcs : ∀ (k : Nat) (L : List Ent), cs[k]? = some L → ∀ en ∈ L, EntOK M own cc nL en) (hG : ∀ mid as σ P, G mid as σ P → ∃ d0, (d0 + 1 ≤ R.frames ∧ 64 * (d0 + 1) ≤ R.locals) ∧ MetM M l D tc ad d0 mid as σ P) (hbud : cells ≤ R.cells ∧ slots ≤ R.slots)
    (hret : ∀ (k : Nat) (en : Ent) (cp : Prop) (v : Option Value) (lv : LV) (st : List Value) (σ : Sg), cs[k]? = some [en] → EntOK M own cc nL en → retv en st = some (cp, v) → cp → Q v σ → Wk (D := D) p l e R s m args below meth c cells slots Qs tc ad A nL (en.1, lv, st, σ)) :
    ∀ (n : Nat) (q : PS), Rch X G cs Q n q → Wk (D := D) p l e R s m args below meth c cells slots Qs tc ad A nL q := by
  intro n
  induction n with
  | zero => intro q h; exact h.elim
  | succ n ih =>
    intro q h
    obtain ⟨pc, lv, st, σ⟩ := q
    rcases h with ⟨k, L, cp, q2, h1, h2, h3, h4⟩ | ⟨ks, lv2, h1, h2⟩ | ⟨k, en, cp, as, r, h1, h2, h3, h4, h5⟩ | ⟨k, en, cp, v, h1, h2, h3, h4, h5⟩
    · exact blk_ok F hbud L (hcs k L h1) _ cp q2 h2 h3 (ih q2 h4)
    · intro H locs ls hl hP hS
      subst h1
      exact ih _ h2 H locs ls (elv_pick ks hl) hP hS
    · subst h2
      obtain ⟨d0, hd, hM⟩ := hG _ _ _ _ h5
      exact call_ok F (hcs k _ h1 en List.mem_cons_self) h3 h4 hM hd hbud (fun v σ2 hv => ih _ hv)
    · subst h2
      exact hret k en cp v lv st σ h1 (hcs k _ h1 en List.mem_cons_self) h3 h4 h5
end SND2
/-- what a method does, calls as deep as d -/
def Ev (M : Nat → MI) (C : Nat → List (List Ent)) : Nat → Env1
  | 0 => fun _ _ _ _ => False
  | d + 1 => fun mid as σ Q => (lg_sl as).length ≤ (M mid).2.2.1 ∧ Rc none (Ev M C d) (C mid) (0, lv_args 0 as, [], σ) Q
theorem Ev.mono {M : Nat → MI} {C : Nat → List (List Ent)} : ∀ (d : Nat) (mid : Nat) (as : List Value) (σ : Sg) (P P2 : Option Value → Sg → Prop), (∀ v σ, P v σ → P2 v σ) → Ev M C d mid as σ P → Ev M C d mid as σ P2
  | 0, _, _, _, _, _, _, h => h
  | d + 1, mid, as, σ, P, P2, hP, h => by
    obtain ⟨h1, n, h2⟩ := h
    exact ⟨h1, n, Rch.mono hP (fun m as σ P P2 hp h => Ev.mono d m as σ P P2 hp h) n _ h2⟩
theorem Ev.up {M : Nat → MI} {C : Nat → List (List Ent)} : ∀ (d : Nat) (mid : Nat) (as : List Value) (σ : Sg) (P : Option Value → Sg → Prop), Ev M C d mid as σ P → Ev M C (d + 1) mid as σ P
  | 0, _, _, _, _, h => h.elim
  | d + 1, mid, as, σ, P, h => by
    obtain ⟨h1, n, h2⟩ := h
    exact ⟨h1, n, Rch.mono (fun _ _ h => h) (fun m as σ P P2 hp h => Ev.up d m as σ P2 (Ev.mono d m as σ P P2 hp h)) n _ h2⟩
theorem Ev.le {M : Nat → MI} {C : Nat → List (List Ent)} {d d2 mid : Nat} {as : List Value} {σ : Sg} {P : Option Value → Sg → Prop} (hd : d ≤ d2) (h : Ev M C d mid as σ P) : Ev M C d2 mid as σ P := by
  induction hd with
  | refl => exact h
  | step _ ih => exact Ev.up _ _ _ _ _ ih
def RetOK (ret : Option FieldType) (en : Ent) : Prop := match en.2.1 with
  | .ireturn => (en.2.2.2.1 = 0 ∧ ret = some .int) ∨ (en.2.2.2.1 = 1 ∧ ret = some .boolean)
  | .lreturn => ret = some .long
  | .areturn => ret = some (.array .int)
  | .return_ => ret = none
  | _ => True
def MthOK (M : Nat → MI) (C : Nat → List (List Ent)) (mid : Nat) : Prop := plainName (M mid).1.cls = true ∧ Cond.code (M mid).1 (M mid).2.1 (M mid).2.2.1 (M mid).2.2.2 ∈ TB ∧ ∀ L ∈ C mid, ∀ en ∈ L, EntOK M (M mid).1.cls (M mid).2.1 (M mid).2.2.1 en ∧ RetOK (M mid).2.2.2 en
theorem lv_args_enc (ad : Nat → Nat) : ∀ (i : Nat) (as : List Value), lv_args i (est ad as) = elv ad (lv_args i as)
  | _, [] => rfl
  | i, v :: vs => by
    show (i, enc ad v) :: lv_args (if (enc ad v).category = 2 then i + 2 else i + 1) (est ad vs) = _
    rw [enc_cat, lv_args_enc ad]
    rfl
theorem lg_sl_enc (ad : Nat → Nat) (as : List Value) : (lg_sl (est ad as)).length = (lg_sl as).length := by
  unfold lg_sl est
  induction as with
  | nil => rfl
  | cons v vs ih =>
    simp only [List.map_cons, List.flatMap_cons, List.length_append, enc_cat]
    rw [ih]
    split <;> rfl
