/-! ===== a method's contract, from what the small machine does ===== -/
theorem Rch.empty {X : RO} {G : Env1} {Q : Option Value → Sg → Prop} : ∀ (n : Nat) (q : PS), ¬ Rch X G [] Q n q := by
  intro n
  induction n with
  | zero => intro q h; exact h
  | succ n ih =>
    intro q h
    obtain ⟨pc, lv, st, σ⟩ := q
    rcases h with ⟨k, L, cp, q2, h1, h2, h3, h4⟩ | ⟨ks, lv2, h1, h2⟩ | ⟨k, en, cp, as, r, h1, h2, h3, h4, h5⟩ | ⟨k, en, cp, v, h1, h2, h3, h4, h5⟩
    · simp at h1
    · exact ih _ h2
    · simp at h1
    · simp at h1
theorem Ev_ok {M : Nat → MI} {C : Nat → List (List Ent)} (hall : ∀ mid, C mid ≠ [] → MthOK M C mid) (l : Launch) (D : va_G) (tc : Nat → ClassId) (ad : Nat → Nat) (hinj : ∀ i j, i < NC → j < NC → ad i = ad j → i = j) :
    ∀ (d : Nat) (mid : Nat) (as : List Value) (σ : Sg) (P : Option Value → Sg → Prop), Ev M C d mid as σ P → MetM M l D tc ad d mid as σ P := by
  intro d
  induction d with
  | zero => intro mid as σ P h; exact h.elim
  | succ d ih =>
    intro mid as σ P h
    obtain ⟨hlen, n, hr⟩ := h
    have hne : C mid ≠ [] := fun q => by
      rw [q] at hr
      exact Rch.empty n _ hr
    obtain ⟨hpl, hcode, hent⟩ := hall mid hne
    refine Met.ofW (cc := (M mid).2.1) (maxL := (M mid).2.2.1) (ret := (M mid).2.2.2) hpl rfl ?_
    intro p e s m args below meth c s₁ B hml hv
    obtain ⟨rfl, hP, hK, hSt, hNs⟩ := hv
    have hx := B.exec
    have hb := B.bytes
    have hrt := B.returns
    have hts := atoms_spec (ws := Cond.code (M mid).1 (M mid).2.1 (M mid).2.2.1 (M mid).2.2.2 :: TB) B.pre
    have hown : s.vm.findClass (M mid).1.cls = some m.cls := findClass_of_methodNamed B.named
    have hlocks := B.notSynchronized
    have F : Fx p (rmL (d + 1)) s m (est ad as).toArray c D tc ad (inA ad) (M mid).1.cls (M mid).2.1 (M mid).2.2.1 none := ⟨hx, hb, hml, hown, fun w hw => hts w (List.mem_cons_of_mem _ hw), hK, hinj, fun _ h => h, ⟨hSt, hNs⟩, ⟨by show 1 ≤ d + 1; omega, by show 64 ≤ 64 * (d + 1); omega⟩, fun x h => by cases h⟩
    have hl := lv_entry (est ad as) (n := (M mid).2.2.1) (by rw [lg_sl_enc]; exact hlen)
    rw [lg_entry_eq]
    rw [lv_args_enc] at hl
    refine Rch_ok F (cs := C mid) (G := Ev M C d) (Q := P) (fun k L hk en hen => (hent L (List.mem_of_getElem? hk) en hen).1) (fun mid as σ P h => ⟨d, ⟨Nat.le_refl _, Nat.le_refl _⟩, ih mid as σ P h⟩) ⟨Nat.le_refl _, Nat.le_refl _⟩ ?_ n (0, lv_args 0 as, [], σ) hr s.heap [] _ hl hP va_S.rf
    intro k en cp v lv st σ2 hk hok hrv hcp hQ H locs ls hl2 hP2 hS2
    obtain ⟨-, hro⟩ := hent _ (List.mem_of_getElem? hk) en List.mem_cons_self
    obtain ⟨pc, ins, len, a, b, d1, zs⟩ := en
    obtain ⟨hdec, -, hln⟩ := hok
    dsimp only at hdec hln hP2 ⊢
    have hq : ∀ (v : Option Value) (t : State), P v σ2 → t.heap = H → QcM D tc ad P (est ad as).toArray s (.returned (v.map (enc ad))) t := fun v t hp ht => ⟨⟨v, σ2, rfl, hp, by rw [ht]; exact hP2⟩, hS2.F ht⟩
    cases ins with
    | ireturn =>
      obtain rfl : len = 1 := hln (fun _ _ _ _ h => by cases h)
      match st, hrv with
      | [.int x], hrv =>
        simp only [retv] at hrv
        rcases hro with ⟨h1, h2⟩ | ⟨h1, h2⟩
        · dsimp only at h1
          subst h1
          simp only [Option.some.injEq, Prod.mk.injEq, Nat.reduceBEq, cond_false] at hrv
          obtain ⟨-, rfl⟩ := hrv
          exact W.iret hx hb (hrt.trans h2) (fun t ht hW => hq (some (.int x)) t hQ ht) hS2.2.2 hdec
        · dsimp only at h1
          subst h1
          simp only [Option.some.injEq, Prod.mk.injEq, Nat.reduceBEq, cond_true] at hrv
          obtain ⟨rfl, rfl⟩ := hrv
          exact W.zret hx hb (hrt.trans h2) (nb_fit hcp).1 (fun t ht hW => hq (some (.int x)) t hQ ht) hS2.2.2 hdec
    | lreturn =>
      obtain rfl : len = 1 := hln (fun _ _ _ _ h => by cases h)
      match st, hrv with
      | [.long x], hrv =>
        simp only [retv, Option.some.injEq, Prod.mk.injEq] at hrv
        obtain ⟨-, rfl⟩ := hrv
        exact W.lret hx hb (hrt.trans hro) (fun t ht hW => hq (some (.long x)) t hQ ht) hS2.2.2 hdec
    | areturn =>
      obtain rfl : len = 1 := hln (fun _ _ _ _ h => by cases h)
      match st, hrv with
      | [.ref x], hrv =>
        simp only [retv, Option.some.injEq, Prod.mk.injEq] at hrv
        obtain ⟨-, rfl⟩ := hrv
        exact W.aret hx hb (hrt.trans hro) (Or.inr ⟨_, rfl⟩) (Or.inr ⟨_, rfl⟩) (fun t ht hW => hq (some (.ref x)) t hQ ht) hS2.2.2 hdec
    | return_ =>
      obtain rfl : len = 1 := hln (fun _ _ _ _ h => by cases h)
      match st, hrv with
      | [], hrv =>
        simp only [retv, Option.some.injEq, Prod.mk.injEq] at hrv
        obtain ⟨-, rfl⟩ := hrv
        exact W.vret hx hb (hrt.trans hro) (fun t ht hW => hq none t hQ ht) hS2.2.2 hdec
    | _ => first | (simp [retv] at hrv; done) | cases hrv
