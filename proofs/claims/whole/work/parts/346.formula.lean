/-! ===== PURE: formula ===== -/
theorem cp_107_14 : ∀ k, k < 73 → cpB 107 14 0 0 (nI k) = true := by decide +kernel
theorem mkeepF {len : Nat} {v : Int32} {σ : Sg} (hl : len ≤ 72) (h5 : σ.1 117 5 = nI len) : ∃ τ, m_formula_117_L48 fu v 0 σ = m_formula_117_b77 v τ ∧ (∀ c, c ≠ 118 → τ.1 c = σ.1 c) ∧ τ.2 = σ.2 ∧ (∀ j, j < 67 → τ.1 118 j = σ.1 118 j) ∧ ∀ j, j < len → τ.1 118 (67 + j) = σ.1 121 j := by
  refine loopE (L := fun m k s => m_formula_117_L48 m v (nI k) s) (N := len) (P := fun k τ => (∀ c, c ≠ 118 → τ.1 c = σ.1 c) ∧ τ.2 = σ.2 ∧ (∀ j, j < 67 → τ.1 118 j = σ.1 118 j) ∧ ∀ j, j < k → τ.1 118 (67 + j) = σ.1 121 j) (Q := fun r => ∃ τ, r = m_formula_117_b77 v τ ∧ (∀ c, c ≠ 118 → τ.1 c = σ.1 c) ∧ τ.2 = σ.2 ∧ (∀ j, j < 67 → τ.1 118 j = σ.1 118 j) ∧ ∀ j, j < len → τ.1 118 (67 + j) = σ.1 121 j) ?_ ?_ (fu_lt (by omega)) ⟨fun _ _ => rfl, rfl, fun _ _ => rfl, fun j hj => absurd hj (Nat.not_lt_zero _)⟩
  · rintro m k τ hk ⟨g1, g2, g3, g4⟩
    refine ⟨si τ 118 (67 + k) (τ.1 121 k), ?_, ?_, ?_, ?_, ?_⟩
    · show m_formula_117_H48 (m_formula_117_L48 m) v (nI k) τ = _
      unfold m_formula_117_H48
      have i67 : (67 : Int32) + nI k = nI (67 + k) := by rw [show (67 : Int32) = nI 67 from rfl, nI_add]
      rw [g1 117 (by omega), h5, if_neg (nI_ge hk (by omega)), inB_t (by omega) (by omega), gd_t, i67, inB_t (by omega) (by omega), gd_t, cl_n (by omega), cl_n (by omega), nI_1]
    · intro c hc; rw [si_c hc]; exact g1 c hc
    · rw [si_l]; exact g2
    · intro j hj; rw [si_j (by omega)]; exact g3 j hj
    · intro j hj
      by_cases e : j = k
      · subst e; rw [si_e, g1 121 (by omega)]
      · rw [si_j (by omega)]; exact g4 j (by omega)
  · rintro m τ ⟨g1, g2, g3, g4⟩
    refine ⟨τ, ?_, g1, g2, g3, g4⟩
    show m_formula_117_H48 (m_formula_117_L48 m) v (nI len) τ = _
    unfold m_formula_117_H48
    rw [g1 117 (by omega), h5, if_pos (nI_le (by omega) (by omega))]
/-- the letters forgotten -/
theorem VV_let {n q ver : Nat} {σ τ : Sg} (h : VV n q ver σ) (f : FR SCR σ τ) : VV n q ver (si (si τ 0 9 0) 117 5 0) := by
  have hk : VV n q ver τ := VV_kp h (Kp_FR f)
  have e : ∀ c, c ≠ 0 → c ≠ 117 → (si (si τ 0 9 0) 117 5 0).1 c = τ.1 c := fun c h0 h1 => by rw [si_c h1, si_c h0]
  refine VV_parts hk (fun c hc => e c (by omega) (by omega)) (fun c _ => rfl) ?_ ?_ ?_ ?_ ?_ ?_
  · rw [si_c (by omega), si_j (by omega)]
  · rw [si_j (by omega), si_c (by omega)]
  · rw [si_j (by omega), si_c (by omega)]
  · exact ⟨0, by omega, by rw [si_c (by omega), si_e]; rfl, by rw [si_e]; rfl, fun j hj => absurd hj (Nat.not_lt_zero _)⟩
  · exact LI_fr hk.2.2.2.2.2.2.1 (fun c _ _ => e c (by omega) (by omega)) (e 126 (by omega) (by omega)) (e 127 (by omega) (by omega))
  · exact RF_fr hk.2.2.2.2.2.2.2.1 (e 116 (by omega) (by omega)) (e 120 (by omega) (by omega))
theorem vHR {n q ver : Nat} {σ : Sg} (h : VV n q ver σ) : HR q σ := h.2.2.2.2.2.2.2.2.1
theorem FRR_scr : FRR.all (fun x => SCR.contains x) = true := by decide
theorem op_formula {n q ver : Nat} {σ : Sg} (hn : n < 512) (h : VV n q ver σ) : ∃ r σ1 σ2, j_formula_0 σ = some (r, σ1) ∧ m_formula_117 σ1 = some (r, σ2) ∧ VI (n + 1) σ2 := by
  have hq := vq h
  have h8 := v0 h
  obtain ⟨len, l1, l2, l3, l4⟩ : LR σ := h.2.2.2.2.2.1
  have hch : ∀ j, j < len → ∃ x, x < 256 ∧ σ.1 107 j = nI x := fun j hj => by
    obtain ⟨a, x, b, c⟩ := l4 j hj
    exact ⟨x, b, by rw [a]; exact c⟩
  obtain ⟨τ, x1, x2, x3⟩ := jread_107 h l1 hch
  have fS : FR SCR σ τ := FR_mono FRR_scr x2
  have e9 : τ.1 0 9 = nI len := by rw [FR_i x2 (by decide)]; exact l2
  -- what the reference stands on
  have hRE : ∀ ρ : Sg, (∀ c, c ≠ 0 → c ≠ 1 → c ≠ 14 → FRR.contains c = false → ρ.1 c = σ.1 c) → RE (cA len (σ.1 107)) len q (si (si (si ρ 117 17 0) 117 18 0) 117 19 0) ∧ Rst len 0 (0, 0, (fun _ => false), 0) (si (si (si ρ 117 17 0) 117 18 0) 117 19 0) := by
    intro ρ hρ
    refine ⟨⟨l1, hq, ?_, ?_, ?_, ?_, ?_⟩, by show 0 ≤ len; omega, ?_, ?_, ?_⟩
    · rw [si_j (by omega), si_j (by omega), si_j (by omega), hρ 117 (by omega) (by omega) (by omega) (by decide)]; exact l3
    · intro j hj
      rw [si_c (by omega), si_c (by omega), si_c (by omega), hρ 121 (by omega) (by omega) (by omega) (by decide)]
      unfold cA
      rw [if_pos hj, (l4 j hj).1]
    · intro j hj
      unfold cA
      rw [if_neg (by omega)]
    · intro j
      unfold cA
      by_cases g : j < len
      · rw [if_pos g]; exact Or.inr (hch j g)
      · rw [if_neg g]; exact Or.inl rfl
    · rw [si_c (by omega), si_c (by omega), si_c (by omega), hρ 118 (by omega) (by omega) (by omega) (by decide)]; exact h8
    · rw [si_j (by omega), si_j (by omega), si_e]; rfl
    · rw [si_j (by omega), si_e]; rfl
    · rw [si_e]; rfl
  have hcne : ∀ j, j < len → cA len (σ.1 107) j ≠ -1 := by
    intro j hj w
    obtain ⟨x, hx, e⟩ := hch j hj
    unfold cA at w
    rw [if_pos hj, e] at w
    have := (eq_l (a := -1) (b := x) (by omega)).mp w.symm
    rw [show (-1 : Int32).toInt = -1 by decide] at this; omega
  unfold j_formula_0
  rw [l2, x1, bd_s, si_c (show 85 ≠ 0 by omega)]
  cases hp : pBoth (cA len (σ.1 107)) q (dm σ) with
  | inl p =>
    rw [hp] at x3
    obtain ⟨p1, p2⟩ := x3
    obtain ⟨r1, r2⟩ := hRE (si τ 0 9 0) (fun c c0 _ _ hc => by rw [si_c c0, FR_i x2 hc])
    have w := mboth (D := dm σ) r1 hcne r2
    rw [hp] at w
    obtain ⟨τ2, y1, y2, y3⟩ := w
    refine ⟨(-1000) - nI p, si τ 0 9 0, si τ2 117 5 0, ?_, ?_, q, ver, ?_⟩
    · rw [p1, if_neg (ni9 p2)]
    · unfold m_formula_117 m_formula_117_b77 m_formula_117_b101
      rw [y1, bd_s, if_pos rfl, if_pos rfl, si_j (by omega), y3]
    · have hV := VV_let h fS
      have key : VV n q ver (si τ2 117 5 0) := by
        have e : ∀ c, c ≠ 117 → (si τ2 117 5 0).1 c = (si (si τ 0 9 0) 117 5 0).1 c := fun c hc => by
          rw [si_c hc, y2.1 c hc, si_c hc, si_c hc, si_c hc, si_c hc]
        have e117 : ∀ j, j ≠ 17 → j ≠ 18 → j ≠ 19 → (si τ2 117 5 0).1 117 j = (si (si τ 0 9 0) 117 5 0).1 117 j := fun j a b c => by
          by_cases g : j = 5
          · subst g; rw [si_e, si_e]
          · rw [si_j g, si_j g, y2.2.2 j a b c, si_j c, si_j b, si_j a]
        exact VV_kp hV ⟨fun c hc => ⟨e c (by unfold kp at hc; omega), by rw [si_l, y2.2.1]; rfl⟩, e117 2 (by omega) (by omega) (by omega), e117 5 (by omega) (by omega) (by omega), e117 7 (by omega) (by omega) (by omega)⟩
      exact VV_up hn key
  | inr r =>
    rw [hp] at x3
    obtain ⟨_, p2, p4, p5, p6, p7, _, _⟩ := x3
    -- the class keeps it
    have kf : j_keepFormula_1_107 (nI len) (nI r.2.2.2.2.1) (si τ 0 9 0) = some ((), si (scp (si (si τ 0 9 0) 1 6 (nI len)) 107 14 0 0 len) 1 7 (nI r.2.2.2.2.1)) := by
      unfold j_keepFormula_1_107
      rw [imin72 len (by omega), si_e, cl_n (by omega), cp_107_14 len (by omega), gd_t]
    generalize hσ1 : si (scp (si (si τ 0 9 0) 1 6 (nI len)) 107 14 0 0 len) 1 7 (nI r.2.2.2.2.1) = σ1 at kf
    have s1c : ∀ c, c ≠ 0 → c ≠ 1 → c ≠ 14 → σ1.1 c = τ.1 c := fun c c0 c1 c2 => by rw [← hσ1, si_c c1, sc_c c2, si_c c1, si_c c0]
    have s1l : σ1.2 = τ.2 := by rw [← hσ1]; rfl
    have s10 : ∀ j, σ1.1 0 j = (si τ 0 9 0).1 0 j := fun j => by rw [← hσ1, si_c (by omega), sc_c (by omega), si_c (by omega)]
    have s11 : ∀ j, j ≠ 6 → j ≠ 7 → σ1.1 1 j = τ.1 1 j := fun j j6 j7 => by rw [← hσ1, si_j j7, sc_c (by omega), si_j j6, si_c (by omega)]
    have s16 : σ1.1 1 6 = nI len := by rw [← hσ1, si_j (by omega), sc_c (by omega), si_e]
    have s17 : σ1.1 1 7 = nI r.2.2.2.2.1 := by rw [← hσ1, si_e]
    have s114 : ∀ j, j < len → σ1.1 14 j = σ.1 107 j := fun j hj => by
      rw [← hσ1, si_c (by omega), sc_i (by omega) (by omega), Nat.zero_add, Nat.sub_zero, si_c (by omega), si_c (by omega), FR_i x2 (by decide)]
    obtain ⟨r1, r2⟩ := hRE σ1 (fun c c0 c1 c2 hc => by rw [s1c c c0 c1 c2, FR_i x2 hc])
    have w := mboth (D := dm σ) r1 hcne r2
    rw [hp] at w
    obtain ⟨t1, t2, t3, τ2, y1, y2, y3⟩ := w
    have y5 : τ2.1 117 5 = nI len := (RE_fk r1 y2).2.2.1
    generalize hτ3 : si (si τ2 118 65 (τ2.1 117 19)) 118 66 ((si τ2 118 65 (τ2.1 117 19)).1 117 5) = τ3
    have h35 : τ3.1 117 5 = nI len := by rw [← hτ3, si_c (by omega), si_c (by omega)]; exact y5
    obtain ⟨τ4, z1, z2, z3, z4, z5⟩ := mkeepF (v := 1) l1 h35
    -- what is where
    have c4 : ∀ c, c ≠ 117 → c ≠ 118 → τ4.1 c = σ1.1 c := fun c c1 c2 => by
      rw [z2 c c2, ← hτ3, si_c c2, si_c c2, y2.1 c c1, si_c c1, si_c c1, si_c c1]
    have c4l : τ4.2 = σ1.2 := by rw [z3, ← hτ3, si_l, si_l, y2.2.1]; rfl
    have c4m : ∀ j, j ≠ 17 → j ≠ 18 → j ≠ 19 → τ4.1 117 j = σ.1 117 j := fun j a b c => by
      rw [z2 117 (by omega), ← hτ3, si_c (by omega), si_c (by omega), y2.2.2 j a b c, si_j c, si_j b, si_j a, s1c 117 (by omega) (by omega) (by omega), FR_i x2 (by decide)]
    have g118 : ∀ j, j < 65 → τ4.1 118 j = σ.1 118 j := fun j hj => by
      rw [z4 j (by omega), ← hτ3, si_j (by omega), si_j (by omega), y2.1 118 (by omega), si_c (by omega), si_c (by omega), si_c (by omega), s1c 118 (by omega) (by omega) (by omega), FR_i x2 (by decide)]
    have g65 : τ4.1 118 65 = nI r.2.2.2.2.1 := by rw [z4 65 (by omega), ← hτ3, si_j (by omega), si_e, y3]
    have g66 : τ4.1 118 66 = nI len := by rw [z4 66 (by omega), ← hτ3, si_e, si_c (by omega)]; exact y5
    have g67 : ∀ j, j < len → τ4.1 118 (67 + j) = σ.1 107 j := fun j hj => by
      rw [z5 j hj, ← hτ3, si_c (by omega), si_c (by omega), (RE_fk r1 y2).2.2.2.1 j hj]
      unfold cA
      rw [if_pos hj]
    refine ⟨nI r.2.2.2.2.1, σ1, si τ4 117 5 0, ?_, ?_, q, ver, ?_⟩
    · rw [p4, if_pos rfl, e9, p5, kf, bd_s, s1c 85 (by omega) (by omega) (by omega), p5]
    · unfold m_formula_117
      rw [y1, bd_s, if_neg (show ¬ (1 : Int32) = 0 by decide), hτ3, z1]
      unfold m_formula_117_b77 m_formula_117_b101
      rw [if_neg (show ¬ (1 : Int32) = 0 by decide), si_j (by omega), z2 117 (by omega), ← hτ3, si_c (by omega), si_c (by omega), y3]
    · have hV := VV_let h (FR_refl SCR σ)
      have eb : ∀ c, c ≠ 0 → c ≠ 1 → c ≠ 14 → c ≠ 117 → c ≠ 118 → FRR.contains c = false → (si τ4 117 5 0).1 c = (si (si σ 0 9 0) 117 5 0).1 c := fun c c0 c1 c2 c3 c4' hc => by
        rw [si_c c3, c4 c c3 c4', s1c c c0 c1 c2, si_c c3, si_c c0, FR_i x2 hc]
      have eb1 : ∀ j, j ≠ 6 → j ≠ 7 → (si τ4 117 5 0).1 1 j = σ.1 1 j := fun j j6 j7 => by
        rw [si_c (by omega), c4 1 (by omega) (by omega), s11 j j6 j7, FR_i x2 (by decide)]
      have e118 : ∀ j, j < 65 → (si τ4 117 5 0).1 118 j = σ.1 118 j := fun j hj => by rw [si_c (by omega)]; exact g118 j hj
      have FRn : ∀ c, c < 85 ∨ c = 104 ∨ 106 < c → FRR.contains c = false := by
        intro c hc
        cases hq : FRR.contains c
        · rfl
        · have h1 : c ∈ FRR := by simpa using hq
          unfold FRR at h1
          simp only [List.mem_cons, List.not_mem_nil, or_false] at h1
          omega
      have hM0 := vMR h
      obtain ⟨m1, m2, m3, m4, m5, m6⟩ := hM0
      refine VV_mk0 hn hV ?_ ?_ ?_ ?_ ?_ ?_ ?_
      · intro c hc
        by_cases c0 : c = 0
        · subst c0
          funext j
          rw [si_c (show 0 ≠ 117 by omega), c4 0 (by omega) (by omega), s10 j, si_c (show 0 ≠ 117 by omega)]
          by_cases g : j = 9
          · rw [g, si_e, si_e]
          · rw [si_j g, si_j g, FR_i x2 (by decide)]
        · unfold kc at hc
          exact eb c c0 (by omega) (by omega) (by omega) (by omega) (FRn c (by omega))
      · rw [si_j (by omega), c4m 2 (by omega) (by omega) (by omega), si_j (by omega), si_c (by omega)]
      · rw [si_e, si_e]
      · refine ⟨?_, ?_, ?_, ?_, ?_, ?_⟩
        · rw [eb1 0 (by omega) (by omega)]; exact m1
        · rw [e118 0 (by omega)]; exact m2
        · intro k hk
          obtain ⟨κ, k1, k2, k3⟩ := m3 k hk
          refine ⟨κ, k1, ?_, ?_⟩
          · rw [eb (1 + 1) (by omega) (by omega) (by omega) (by omega) (by omega) (FRn _ (by omega)), si_c (by omega), si_c (by omega)]; exact k2
          · rw [e118 _ (by omega)]; exact k3
        · intro k u hk hu
          rw [eb (1 + 2 + 1 + k) (by omega) (by omega) (by omega) (by omega) (by omega) (FRn _ (by omega)), si_c (by omega), si_c (by omega), e118 _ (by omega)]
          exact m4 k u hk hu
        · intro k hk
          rw [eb (1 + 11) (by omega) (by omega) (by omega) (by omega) (by omega) (FRn _ (by omega)), si_c (by omega), si_c (by omega), eb (1 + 12) (by omega) (by omega) (by omega) (by omega) (by omega) (FRn _ (by omega)), si_c (by omega), si_c (by omega), e118 _ (by omega), e118 _ (by omega)]
          exact m5 k hk
        · have f7 : (si τ4 117 5 0).1 1 7 = nI r.2.2.2.2.1 := by rw [si_c (by omega), c4 1 (by omega) (by omega), s17]
          have f14 : ∀ j, j < len → (si τ4 117 5 0).1 118 (67 + j) = σ.1 107 j := fun j hj => by rw [si_c (by omega)]; exact g67 j hj
          refine ⟨len, l1, by rw [si_c (by omega), c4 1 (by omega) (by omega), s16], Or.inr ⟨t1, by rw [si_c (by omega)]; exact g66, by rw [f7, si_c (by omega), g65], by rw [f7]; exact ni9 t3, ?_, ?_⟩⟩
          · intro j hj
            rw [f14 j hj, si_c (by omega), c4 (1 + 13) (by omega) (by omega)]
            exact s114 j hj
          · refine ⟨fun j hj => ?_, ?_⟩
            · obtain ⟨x, hx, e⟩ := hch j hj
              exact ⟨x, hx, (f14 j hj).trans e⟩
            · rw [cA_cg (f := σ.1 107) f14]
              exact pBoth_PL (Nat.le_refl q) hq hp
      · refine HR_fr (vHR h) (fun c _ _ => ?_) ?_ ?_
        · rw [eb c (by omega) (by omega) (by omega) (by omega) (by omega) (FRn _ (by omega)), si_c (by omega), si_c (by omega)]
        · rw [eb 122 (by omega) (by omega) (by omega) (by omega) (by omega) (FRn _ (by omega)), si_c (by omega), si_c (by omega)]
        · rw [si_j (by omega), c4m 7 (by omega) (by omega) (by omega)]
      · intro k u hk hu
        unfold dm
        rw [e118 _ (by omega), e118 _ (by omega), si_c (by omega), si_c (by omega)]
      · intro c h1 h2
        refine ⟨eb c (by omega) (by omega) (by omega) (by omega) (by omega) (FRn _ (by omega)), ?_⟩
        rw [si_l, c4l, s1l, FR_l x2 (FRn _ (by omega))]; rfl
