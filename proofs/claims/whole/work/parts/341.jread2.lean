/-! ===== PURE: the class reads a FORMULA ===== -/
def okc (r o : Nat) : Prop := ck r = 0 ∧ al r = 5 ∧ r ≠ 96 + 1 + o ∧ r ≠ 85 ∧ r ≠ 87
/-- what is known of the reading within ( ) -/
def RsOk (c : Nat → Int32) (len q : Nat) (D : Nat → Vc) (b : Bool) (prs : Pst → Nat ⊕ (Vc × Pst)) (rs : Int32 → Sg → Option (Unit × Sg)) (o : Nat) : Prop := o ≤ 6 ∧ (b = true ↔ o < 6) ∧ (o < 6 → (∀ s σ, JE c len q D σ → Jst len s σ → ∃ τ, rs (nI (o + 1)) σ = some ((), τ) ∧ FJ (o + 1) (o + 1) σ τ ∧ Rok len (prs s) (88 + 1 + (o + 1)) τ) ∧ ∀ p σ, Jdd p σ → ∃ τ, rs (nI (o + 1)) σ = some ((), τ) ∧ FJ (o + 1) (o + 1) σ τ ∧ Jdd p τ)
theorem xq {x : Int32} {q : Nat} (hq : q ≤ 8) (hx : x = -1 ∨ ∃ k, k < 256 ∧ x = nI k) : (isQ q x = true ∧ ∃ k, k < q ∧ x - 65 = nI k ∧ qx x = k) ∨ (¬ isQ q x = true ∧ (x - 65 < 0 ∨ nI q ≤ x - 65)) := by
  rcases hx with rfl | ⟨k, hk, rfl⟩
  · refine Or.inr ⟨?_, Or.inl (by decide)⟩
    unfold isQ
    simp only [Bool.and_eq_true, decide_eq_true_eq, show (-1 : Int32).toInt = -1 by decide]
    omega
  · have hi : isQ q (nI k) = true ↔ 65 ≤ k ∧ k < 65 + q := by
      unfold isQ
      simp only [Bool.and_eq_true, decide_eq_true_eq, nI_toInt (show k < 2 ^ 31 by omega)]
      omega
    by_cases h : 65 ≤ k
    · have hs : nI k - 65 = nI (k - 65) := by rw [show (65 : Int32) = nI 65 from rfl, nI_sub h]
      by_cases h2 : k < 65 + q
      · refine Or.inl ⟨hi.mpr ⟨h, h2⟩, k - 65, by omega, hs, ?_⟩
        unfold qx
        rw [nI_toInt (by omega)]; omega
      · refine Or.inr ⟨fun w => h2 (hi.mp w).2, Or.inr ?_⟩
        rw [hs]; exact nI_le (by omega) (by omega)
    · refine Or.inr ⟨fun w => h (hi.mp w).1, Or.inl ?_⟩
      rw [show (0 : Int32) = nI 0 from rfl, lt_l (by omega), Int32.toInt_sub, nI_toInt (by omega), show (65 : Int32).toInt = 65 by decide, bm32 (by omega) (by omega)]
      omega
theorem okc_104 {o : Nat} (ho : o ≤ 6) : okc 104 o := ⟨by decide +kernel, by decide +kernel, by omega, by omega, by omega⟩
theorem okc_s {o : Nat} (ho : o < 6) : okc (88 + 1 + (o + 1)) o := ⟨(ckT_sum (o + 1) (by omega)).1, (ckT_sum (o + 1) (by omega)).2, by omega, by omega, by omega⟩
theorem okc_p {k o : Nat} (hk : k < 8) : okc (52 + 1 + k) o := ⟨(ckT_pow k hk).1, (ckT_pow k hk).2, by omega, by omega, by omega⟩
theorem jatom {c : Nat → Int32} {len q : Nat} {D : Nat → Vc} {b : Bool} {prs : Pst → Nat ⊕ (Vc × Pst)} {rs : Int32 → Sg → Option (Unit × Sg)} {o : Nat} {s : Pst} {σ : Sg} (hR : RsOk c len q D b prs rs o) (he : JE c len q D σ) (h : Jst len s σ) : ∃ r τ, j_readAtom_85 rs (nI o) σ = some (r, τ) ∧ FJ (o + 1) (o + 1) σ τ ∧ okc r o ∧ Rok len (pAtom c q D b prs s) r τ := by
  obtain ⟨ho, hb, hrs⟩ := hR
  have hl := he.1
  have hq := he.2.1
  have hch := he.2.2.2.2.1 s.1
  have h51 : σ.1 51 0 = nI q := he.2.2.2.2.2.1
  have h104 : ∀ u, u < 5 → σ.1 104 u = 0 := he.2.2.2.2.2.2.2
  unfold j_readAtom_85
  rw [jnx he h, bd_s]
  rcases xq hq hch with ⟨g, k, hk, e1, e2⟩ | ⟨g, hno⟩
  · have hc1 : c s.1 ≠ -1 := fun w => by rw [w] at g; revert g; unfold isQ; simp only [Bool.and_eq_true, decide_eq_true_eq, show (-1 : Int32).toInt = -1 by decide]; omega
    obtain ⟨a1, a2⟩ := jgo h (c_lt he hc1)
    generalize hτ1 : si σ 85 3 ((σ.1 85 3) + 1) = τ1 at a1 a2
    refine ⟨52 + 1 + k, si τ1 85 6 ((τ1.1 85 6) ||| ((1 : Int32) <<< ((c s.1 - 65) &&& 31))), ?_, FJ_85 (FR_si a2 (by decide)), okc_p (by omega), ?_⟩
    · rw [e1, if_neg (nI_pos (by omega)), h51, if_neg (nI_ge hk (by omega)), inB_t (by omega) (by omega), gd_t, cl_n (by omega)]
    · unfold pAtom
      rw [if_pos g, e2]
      obtain ⟨g1, g2, g3, g4, g5, g6, g7⟩ := a1
      refine ⟨⟨by rw [si_j (by omega)]; exact g1, g2, by rw [si_j (by omega)]; exact g3, by rw [si_j (by omega)]; exact g4, by rw [si_j (by omega)]; exact g5, by rw [si_e, g6], fun j hj => by rw [si_c (by omega)]; exact g7 j hj⟩, ?_⟩
      intro u hu
      rw [si_c (by omega), FR_i a2 (FR_1 (by omega))]
      exact he.2.2.2.2.2.2.1 k u hk hu
  · have b57 : (if c s.1 - 65 < 0 then j_readAtom_85_b57 rs (nI o) (c s.1) σ else if (σ.1 51 0) ≤ (c s.1 - 65) then j_readAtom_85_b57 rs (nI o) (c s.1) σ else gd (inB (c s.1 - 65) 8) (some (52 + 1 + (c s.1 - 65).toNatClampNeg, si (si σ 85 3 ((σ.1 85 3) + 1)) 85 6 (((si σ 85 3 ((σ.1 85 3) + 1)).1 85 6) ||| ((1 : Int32) <<< ((c s.1 - 65) &&& 31)))))) = j_readAtom_85_b57 rs (nI o) (c s.1) σ := by
      by_cases e : c s.1 - 65 < 0
      · rw [if_pos e]
      · rw [if_neg e, h51, if_pos (hno.resolve_left e)]
    rw [b57]
    unfold j_readAtom_85_b57 pAtom
    rw [if_neg g, jdig, bd_s]
    by_cases g2 : isD (c s.1) = true
    · obtain ⟨τ, x1, x2, x3⟩ := jnum he h
      refine ⟨104, τ, ?_, FJ_85 x2, okc_104 ho, ?_⟩
      · rw [if_pos g2, if_neg (by decide), x1, bd_s]
      · rw [if_pos g2]
        exact ⟨x3, fun u hu => by rw [FR_i x2 (by decide)]; exact h104 u hu⟩
    · rw [if_neg g2, if_neg g2, if_pos rfl]
      -- nothing that can stand here
      have bad : ∃ r τ, j_readAtom_85_b98 rs σ = some (r, τ) ∧ FJ (o + 1) (o + 1) σ τ ∧ okc r o ∧ Rok len (.inl s.1) r τ := by
        obtain ⟨τ, x1, x2, x3⟩ := jfail hl h
        refine ⟨104, τ, ?_, FJ_85 x2, okc_104 ho, x3⟩
        unfold j_readAtom_85_b98
        rw [x1, bd_s]
      by_cases g3 : c s.1 = 40
      · rw [if_pos g3]
        unfold j_readAtom_85_b85
        by_cases ho6 : o < 6
        · obtain ⟨r1, r2⟩ := hrs ho6
          rw [if_neg (show ¬ (6 : Int32) ≤ nI o from nI_ge (b := 6) ho6 (by decide)), if_pos (show c s.1 = 40 ∧ b = true from ⟨g3, hb.mpr ho6⟩)]
          unfold j_readInner_85 j_readInner_85_b27
          obtain ⟨a1, a2⟩ := jgo h (c_lt he (by rw [g3]; decide))
          rw [g3, if_neg (by decide), nI_1]
          generalize hτ1 : si σ 85 3 ((σ.1 85 3) + 1) = τ1 at a1 a2
          have he1 : JE c len q D τ1 := JE_fj (a := 0) (b := 0) he (FJ_85 a2)
          obtain ⟨τ2, y1, y2, y3⟩ := r1 _ _ he1 a1
          have f2 : FJ (o + 1) (o + 1) σ τ2 := FJ_trans (FJ_85 a2) y2
          rw [y1, bd_s]
          cases hx : prs (s.1 + 1, s.2) with
          | inl p =>
            rw [hx] at y3
            obtain ⟨τ3, z1, z2, z3⟩ := jexp_d y3 41
            refine ⟨88 + 1 + (o + 1), τ3, ?_, FJ_trans f2 (FJ_85 z2), okc_s ho6, z3⟩
            rw [z1, bd_s, if_pos rfl, inB_t (by omega) (by omega), gd_t, bd_s, cl_n (by omega)]
          | inr a =>
            rw [hx] at y3
            obtain ⟨y3, y4⟩ := y3
            have he2 : JE c len q D τ2 := JE_fj he f2
            rw [pbd_r]
            rcases jexp he2 y3 41 (by decide) with ⟨q1, τ3, z1, z2, z3⟩ | ⟨q1, τ3, z1, z2, z3⟩
            · refine ⟨88 + 1 + (o + 1), τ3, ?_, FJ_trans f2 (FJ_85 z2), okc_s ho6, ?_⟩
              · rw [z1, bd_s, if_pos rfl, inB_t (by omega) (by omega), gd_t, bd_s, cl_n (by omega)]
              · rw [if_pos q1]
                exact ⟨z3, fun u hu => by rw [FR_i z2 (FR_1 (by omega))]; exact y4 u hu⟩
            · refine ⟨88 + 1 + (o + 1), τ3, ?_, FJ_trans f2 (FJ_85 z2), okc_s ho6, ?_⟩
              · rw [z1, bd_s, if_pos rfl, inB_t (by omega) (by omega), gd_t, bd_s, cl_n (by omega)]
              · rw [if_neg q1]; exact z3
        · rw [if_pos (show (6 : Int32) ≤ nI o from nI_le (a := 6) (by omega) (by omega)), if_neg (show ¬ (c s.1 = 40 ∧ b = true) from fun w => ho6 (hb.mp w.2)), if_neg (show ¬ (c s.1 = 115 ∧ b = true) from fun w => ho6 (hb.mp w.2))]
          exact bad
      · rw [if_neg g3, if_neg (show ¬ (c s.1 = 40 ∧ b = true) from fun w => g3 w.1)]
        by_cases g4 : c s.1 = 115
        · rw [if_pos g4]
          unfold j_readAtom_85_b85
          by_cases ho6 : o < 6
          · obtain ⟨r1, r2⟩ := hrs ho6
            rw [if_neg (show ¬ (6 : Int32) ≤ nI o from nI_ge (b := 6) ho6 (by decide)), if_pos (show c s.1 = 115 ∧ b = true from ⟨g4, hb.mpr ho6⟩)]
            unfold j_readInner_85 j_readInner_85_b27 j_readInner_85_b74
            obtain ⟨a1, a2⟩ := jgo h (c_lt he (by rw [g4]; decide))
            have h3 : σ.1 85 3 = nI s.1 := h.2.2.1
            have hs72 : s.1 ≤ 72 := by have := h.2.1; omega
            rw [g4, if_pos rfl, nI_1]
            generalize hτ1 : si σ 85 3 ((σ.1 85 3) + 1) = τ1 at a1 a2
            have he1 : JE c len q D τ1 := JE_fj (a := 0) (b := 0) he (FJ_85 a2)
            have hca := okc_s ho6
            have hcA : ck (88 + 1 + (o + 1)) = 0 ∧ al (88 + 1 + (o + 1)) = 5 := ⟨hca.1, hca.2.1⟩
            -- once there is a fault
            have dead : ∀ p τ, FJ (o + 1) (o + 1) σ τ → Jdd p τ → ∃ τ', (bd (rs (nI (o + 1)) τ) fun _ σ1 => bd (j_expect_85 41 σ1) fun _ σ2 => if (115 : Int32) = 40 then gd (inB (nI (o + 1)) 7) (some (88 + 1 + (nI (o + 1)).toNatClampNeg, σ2)) else gd (inB (nI (o + 1)) 7) (bd (j_isPure_x (88 + 1 + (nI (o + 1)).toNatClampNeg) σ2) fun r4 σ4 => if r4 = 0 then bd (j_markWrong_85 (σ.1 85 3) σ4) fun _ σ5 => some (104, σ5) else some (104, σ4))) = some (104, τ') ∧ FJ (o + 1) (o + 1) σ τ' ∧ Jdd p τ' := by
              intro p τ f hd
              obtain ⟨τ2, y1, y2, y3⟩ := r2 p τ hd
              obtain ⟨τ3, z1, z2, z3⟩ := jexp_d y3 41
              obtain ⟨τ4, u1, u2, u3⟩ := jmark_d z3 (σ.1 85 3)
              rw [y1, bd_s, z1, bd_s, if_neg (by decide), inB_t (by omega) (by omega), gd_t, cl_n (by omega), jpure_x hcA, bd_s]
              by_cases gz : zv (τ3.1 (88 + 1 + (o + 1))) = true
              · rw [if_pos gz, if_neg (by decide)]
                exact ⟨τ3, rfl, FJ_trans f (FJ_trans y2 (FJ_85 z2)), z3⟩
              · rw [if_neg gz, if_pos rfl, u1, bd_s]
                exact ⟨τ4, rfl, FJ_trans f (FJ_trans y2 (FJ_trans (FJ_85 z2) (FJ_87 u2))), u3⟩
            rcases jexp he1 a1 40 (by decide) with ⟨q0, τ2, w1, w2, w3⟩ | ⟨q0, τ2, w1, w2, w3⟩
            · have q0' : c (s.1 + 1) = 40 := q0
              rw [if_pos q0', w1, bd_s]
              have f2 : FJ (o + 1) (o + 1) σ τ2 := FJ_trans (FJ_85 a2) (FJ_85 w2)
              have he2 : JE c len q D τ2 := JE_fj he f2
              obtain ⟨τ3, y1, y2, y3⟩ := r1 _ _ he2 w3
              have f3 : FJ (o + 1) (o + 1) σ τ3 := FJ_trans f2 y2
              cases hx : prs (s.1 + 1 + 1, s.2) with
              | inl p =>
                have y3' : Rok len (prs (s.1 + 1 + 1, s.2)) (88 + 1 + (o + 1)) τ3 := y3
                rw [hx] at y3'
                rw [y1, bd_s]
                obtain ⟨τ4, z1, z2, z3⟩ := jexp_d y3' 41
                obtain ⟨τ5, u1, u2, u3⟩ := jmark_d z3 (σ.1 85 3)
                rw [z1, bd_s, if_neg (by decide), inB_t (by omega) (by omega), gd_t, cl_n (by omega), jpure_x hcA, bd_s]
                by_cases gz : zv (τ4.1 (88 + 1 + (o + 1))) = true
                · rw [if_pos gz, if_neg (by decide)]
                  exact ⟨104, τ4, rfl, FJ_trans f3 (FJ_85 z2), okc_104 ho, z3⟩
                · rw [if_neg gz, if_pos rfl, u1, bd_s]
                  exact ⟨104, τ5, rfl, FJ_trans f3 (FJ_trans (FJ_85 z2) (FJ_87 u2)), okc_104 ho, u3⟩
              | inr a =>
                have y3' : Rok len (prs (s.1 + 1 + 1, s.2)) (88 + 1 + (o + 1)) τ3 := y3
                rw [hx] at y3'
                obtain ⟨y4, y5⟩ := y3'
                have he3 : JE c len q D τ3 := JE_fj he f3
                rw [pbd_r, y1, bd_s]
                rcases jexp he3 y4 41 (by decide) with ⟨q1, τ4, z1, z2, z3⟩ | ⟨q1, τ4, z1, z2, z3⟩
                · have f4 : FJ (o + 1) (o + 1) σ τ4 := FJ_trans f3 (FJ_85 z2)
                  have hz : zv (τ4.1 (88 + 1 + (o + 1))) = true ↔ zv a.1 = true := by
                    rw [zv_iff, zv_iff]
                    constructor
                    · intro w u hu
                      rw [← y5 u hu, ← w u hu, FR_i z2 (FR_1 (by omega))]
                    · intro w u hu
                      rw [FR_i z2 (FR_1 (by omega)), y5 u hu]; exact w u hu
                  rw [z1, bd_s, if_neg (by decide), inB_t (by omega) (by omega), gd_t, cl_n (by omega), jpure_x hcA, bd_s, if_pos q1]
                  have h104' : ∀ τ, FJ (o + 1) (o + 1) σ τ → ∀ u, u < 5 → τ.1 104 u = 0 := fun τ f u hu => by
                    rw [(f 104 (by omega) (by omega) (by omega) (by omega)).1]; exact h104 u hu
                  by_cases gz : zv a.1 = true
                  · rw [if_pos (hz.mpr gz), if_neg (by decide), if_pos gz]
                    exact ⟨104, τ4, rfl, f4, okc_104 ho, z3, h104' τ4 f4⟩
                  · obtain ⟨τ5, u1, u2, u3⟩ := jmark z3 hs72
                    have f5 : FJ (o + 1) (o + 1) σ τ5 := FJ_trans f4 (FJ_87 u2)
                    rw [if_neg (fun w => gz (hz.mp w)), if_pos rfl, h3, u1, bd_s, if_neg gz]
                    exact ⟨104, τ5, rfl, f5, okc_104 ho, u3, h104' τ5 f5⟩
                · obtain ⟨τ5, u1, u2, u3⟩ := jmark_d z3 (σ.1 85 3)
                  rw [z1, bd_s, if_neg (by decide), inB_t (by omega) (by omega), gd_t, cl_n (by omega), jpure_x hcA, bd_s, if_neg q1]
                  by_cases gz : zv (τ4.1 (88 + 1 + (o + 1))) = true
                  · rw [if_pos gz, if_neg (by decide)]
                    exact ⟨104, τ4, rfl, FJ_trans f3 (FJ_85 z2), okc_104 ho, z3⟩
                  · rw [if_neg gz, if_pos rfl, u1, bd_s]
                    exact ⟨104, τ5, rfl, FJ_trans f3 (FJ_trans (FJ_85 z2) (FJ_87 u2)), okc_104 ho, u3⟩
            · have q0' : ¬ c (s.1 + 1) = 40 := q0
              rw [if_neg q0', w1, bd_s]
              obtain ⟨τ', v1, v2, v3⟩ := dead (s.1 + 1) τ2 (FJ_trans (FJ_85 a2) (FJ_85 w2)) w3
              exact ⟨104, τ', by rw [v1, bd_s], v2, okc_104 ho, v3⟩
          · rw [if_pos (show (6 : Int32) ≤ nI o from nI_le (a := 6) (by omega) (by omega)), if_neg (show ¬ (c s.1 = 115 ∧ b = true) from fun w => ho6 (hb.mp w.2))]
            exact bad
        · rw [if_neg g4, if_neg (show ¬ (c s.1 = 115 ∧ b = true) from fun w => g4 w.1)]
          exact bad
theorem jatom_d {rs : Int32 → Sg → Option (Unit × Sg)} {x : Int32} {p : Nat} {σ : Sg} (h : Jdd p σ) : j_readAtom_85 rs x σ = some (104, σ) := by
  unfold j_readAtom_85
  rw [jnx_d h, bd_s, if_pos (show (-1 : Int32) - 65 < 0 by decide)]
  unfold j_readAtom_85_b57 j_readAtom_85_b98
  rw [jdig, bd_s, if_neg isD_n1, if_pos rfl, if_neg (by decide), if_neg (by decide), jfail_d h, bd_s]
