/-! ===== PURE: had ===== -/
theorem op_had {n q ver : Nat} {σ : Sg} (hn : n < 512) (h : VV n q ver σ) (a : Int32) : ∃ r σ1 σ2, j_had_0 a σ = some (r, σ1) ∧ m_had_117 a σ1 = some (r, σ2) ∧ VI (n + 1) σ2 := by
  have hq := vq h
  unfold j_had_0 j_had_0_b33 m_had_117
  by_cases g0 : 0 ≤ a
  · by_cases g3 : a ≤ 3
    · obtain ⟨k, hk, rfl⟩ : ∃ k : Nat, k ≤ 3 ∧ a = nI k := by
        have w0 := Int32.le_iff_toInt_le.mp g0
        have w3 := Int32.le_iff_toInt_le.mp g3
        rw [show (0 : Int32).toInt = 0 by decide] at w0
        rw [show (3 : Int32).toInt = 3 by decide] at w3
        refine ⟨a.toInt.toNat, by omega, Int32.toInt_inj.mp ?_⟩
        rw [nI_toInt (by omega)]; omega
      have hv := v7 h
      obtain ⟨σ1, a1, a2, a3⟩ := jfil84 σ
      have k1 : Kp σ σ1 := Kp_S a2 (by decide)
      have z0 : ∀ u : Nat, u < 5 → (((fun _ => 0) : Nat → Int) u).natAbs ≤ 60 - 20 * k := fun u _ => by show (0 : Int).natAbs ≤ _; omega
      obtain ⟨r, σ2, S, b1, b2, b3, b4, b5, b6⟩ := jga hv q 12 k 0 (fun _ => 0) σ1 [] (Nat.le_refl _) (by omega) hk (by rw [FR_l a2 (by decide)]) (by rw [L_0]; rfl) z0 a3 (by
        have := GN_le q (by omega) k (by omega)
        show 0 + _ ≤ _
        omega)
      have k2 : Kp σ1 σ2 := Kp_S b2 (by decide)
      have hS : S.length = r := by rw [b4]; show 0 + r = r; omega
      have h8 : σ2.1 118 = σ.1 118 := (K118 k2).trans (K118 k1)
      have hM := vMR h
      have hAN := AN_le q (by omega)
      have run : ∃ σ3 T, m_had_117_L26 fu (nI k) 0 0 σ2 = some (nI T.length, σ3) ∧ FR [129, 131] σ2 σ3 ∧ TT T (σ3.2 131) ∧ ∀ y, y ∈ T ↔ ∃ (l : Nat) (w : Nat → Int), l < k + 1 ∧ VA σ q l 0 (fun _ => 0) w ∧ y.toInt = KM w := by
        have hsum : ∀ i, i ≤ 3 → nsm (fun l => AN (2 * q) l 0) (i + 1) 0 ≤ 969 := by
          intro i hi
          have e3 : nsm (fun l => AN (2 * q) l 0) 4 0 = AN (2 * q) 0 0 + (AN (2 * q) 1 0 + (AN (2 * q) 2 0 + (AN (2 * q) 3 0 + 0))) := rfl
          have e2 : nsm (fun l => AN (2 * q) l 0) 3 0 = AN (2 * q) 0 0 + (AN (2 * q) 1 0 + (AN (2 * q) 2 0 + 0)) := rfl
          have e1 : nsm (fun l => AN (2 * q) l 0) 2 0 = AN (2 * q) 0 0 + (AN (2 * q) 1 0 + 0) := rfl
          have e0 : nsm (fun l => AN (2 * q) l 0) 1 0 = AN (2 * q) 0 0 + 0 := rfl
          obtain rfl | rfl | rfl | rfl : i = 0 ∨ i = 1 ∨ i = 2 ∨ i = 3 := by omega
          all_goals simp only [Nat.zero_add, Nat.reduceAdd] <;> omega
        have hnext : ∀ e f, nsm (fun l => AN (2 * q) l 0) (e + 1) f = nsm (fun l => AN (2 * q) l 0) e f + AN (2 * q) (f + e) 0 := by
          intro e
          induction e with
          | zero => intro f; show AN (2 * q) f 0 + 0 = 0 + AN (2 * q) f 0; omega
          | succ e ih =>
            intro f
            show AN (2 * q) f 0 + nsm (fun l => AN (2 * q) l 0) (e + 1) (f + 1) = AN (2 * q) f 0 + nsm (fun l => AN (2 * q) l 0) e (f + 1) + AN (2 * q) (f + (e + 1)) 0
            rw [ih (f + 1), show f + 1 + e = f + (e + 1) by omega]; omega
        refine loopE (L := fun m i (s : Int32 × Sg) => m_had_117_L26 m (nI k) s.1 (nI i) s.2) (N := k + 1) (P := fun i s => ∃ T, s.1 = nI T.length ∧ FR [129, 131] σ2 s.2 ∧ TT T (s.2.2 131) ∧ T.length ≤ nsm (fun l => AN (2 * q) l 0) i 0 ∧ ∀ y, y ∈ T ↔ ∃ (l : Nat) (w : Nat → Int), l < i ∧ VA σ q l 0 (fun _ => 0) w ∧ y.toInt = KM w) (Q := fun r => ∃ σ3 T, r = some (nI T.length, σ3) ∧ FR [129, 131] σ2 σ3 ∧ TT T (σ3.2 131) ∧ ∀ y, y ∈ T ↔ ∃ (l : Nat) (w : Nat → Int), l < k + 1 ∧ VA σ q l 0 (fun _ => 0) w ∧ y.toInt = KM w) (s := (0, σ2)) ?_ ?_ (fu_lt (by omega)) ⟨[], rfl, FR_refl _ _, ⟨fun i hi => absurd hi (Nat.not_lt_zero _), List.nodup_nil⟩, Nat.zero_le _, fun y => ⟨fun h => absurd h List.not_mem_nil, fun ⟨l, w, h, _⟩ => absurd h (Nat.not_lt_zero _)⟩⟩
        · rintro m i ⟨s, τ⟩ hi ⟨T, rfl, fr, hT, hlT, hmem⟩
          dsimp only at fr hT ⊢
          have hs3 := hsum i (by omega)
          have hnx := hnext i 0
          rw [Nat.zero_add] at hnx
          obtain ⟨τ1, T1, y1, y2, y3, y4, y5, y6⟩ := mad (σ := σ) (len := i) hq hM (by omega) i 12 0 (fun _ => 0) τ T (by omega) (by omega) (by rw [FR_i fr (by decide)]; exact h8) (fun j hj => absurd hj (Nat.not_lt_zero _)) hT (by rw [if_pos rfl]; omega)
          rw [if_pos rfl] at y5 y6
          refine ⟨(nI T1.length, τ1), ?_, T1, rfl, FR_trans fr y2, y4, by omega, fun y => ?_⟩
          · show m_had_117_H26 (m_had_117_L26 m) (nI k) (nI T.length) (nI i) τ = _
            unfold m_had_117_H26
            have y1' : m_adds_117 12 0 (nI i) (nI T.length) τ = some (nI T1.length, τ1) := y1
            rw [if_neg (nI_nlt (by omega) (by omega)), y1', bd_s, nI_1]
          · rw [y6 y, hmem y]
            constructor
            · rintro (⟨l, w, p1, p2⟩ | ⟨w, p1, p2⟩)
              · exact ⟨l, w, by omega, p2⟩
              · exact ⟨i, w, by omega, p1, p2⟩
            · rintro ⟨l, w, p1, p2, p3⟩
              by_cases e : l = i
              · subst e; exact Or.inr ⟨w, p2, p3⟩
              · exact Or.inl ⟨l, w, by omega, p2, p3⟩
        · rintro m ⟨s, τ⟩ ⟨T, rfl, fr, hT, hlT, hmem⟩
          refine ⟨τ, T, ?_, fr, hT, hmem⟩
          show m_had_117_H26 (m_had_117_L26 m) (nI k) (nI T.length) (nI (k + 1)) τ = _
          unfold m_had_117_H26
          rw [if_pos (nI_lt (by omega) (by omega))]
      obtain ⟨σ3, T, c1, c2, c3, c4⟩ := run
      have bnd : ∀ w, VG σ q q k (fun _ => 0) w → ∀ u, u < 5 → (w u).natAbs ≤ 60 := by
        intro w hw u hu
        have := VG_le hM q k (fun _ => 0) w 0 (Nat.le_refl _) (fun u _ => by show (0 : Int).natAbs ≤ 0; decide) hw u hu
        omega
      have toA : ∀ w, VG σ q q k (fun _ => 0) w ↔ ∃ l, l < k + 1 ∧ VA σ q l 0 (fun _ => 0) w := by
        intro w
        constructor
        · intro hw
          obtain ⟨l, h1, h2⟩ := VG_VA q k _ w (Nat.le_refl _) hw
          rw [Nat.sub_self] at h2
          exact ⟨l, by omega, h2⟩
        · rintro ⟨l, h1, h2⟩
          exact VG_up q l k _ w (by omega) (VA_VG l 0 _ w h2)
      have memS : ∀ y, y ∈ S ↔ ∃ w, VG σ q q k (fun _ => 0) w ∧ y.toInt = Kz w := by
        intro y
        rw [b6 y]
        exact ⟨fun h => h.elim (fun h => absurd h List.not_mem_nil) id, Or.inr⟩
      have memT : ∀ y, y ∈ T ↔ ∃ w, VG σ q q k (fun _ => 0) w ∧ y.toInt = KM w := by
        intro y
        rw [c4 y]
        constructor
        · rintro ⟨l, w, p1, p2, p3⟩
          exact ⟨w, (toA w).mpr ⟨l, p1, p2⟩, p3⟩
        · rintro ⟨w, p1, p2⟩
          obtain ⟨l, q1, q2⟩ := (toA w).mp p1
          exact ⟨l, w, q1, q2, p2⟩
      have rKM : ∀ w, (∀ u, u < 5 → (w u).natAbs ≤ 60) → ∃ y : Int64, y.toInt = KM w := by
        intro w hw
        have b0 := hw 0 (by omega)
        have b1 := hw 1 (by omega)
        have b2 := hw 2 (by omega)
        have b3 := hw 3 (by omega)
        have b4 := hw 4 (by omega)
        refine ⟨Int64.ofInt (KM w), ?_⟩
        unfold KM
        exact Int64.toInt_ofInt_of_le (by omega) (by omega)
      have rKz : ∀ w, (∀ u, u < 5 → (w u).natAbs ≤ 60) → ∃ y : Int64, y.toInt = Kz w := by
        intro w hw
        have := Kz_le (v := w) (fun u hu => by have := hw u hu; omega)
        refine ⟨Int64.ofInt (Kz w), ?_⟩
        exact Int64.toInt_ofInt_of_le (by omega) (by omega)
      have l1 : S.length ≤ T.length := by
        refine rel_le (R := fun x y => ∃ w, (∀ u, u < 5 → (w u).natAbs ≤ 60) ∧ x.toInt = Kz w ∧ y.toInt = KM w) S T b3.2.2.1 ?_ ?_
        · intro x hx
          obtain ⟨w, w1, w2⟩ := (memS x).mp hx
          obtain ⟨y, hy⟩ := rKM w (bnd w w1)
          exact ⟨y, (memT y).mpr ⟨w, w1, hy⟩, w, bnd w w1, w2, hy⟩
        · rintro x x' y ⟨w, w1, w2, w3⟩ ⟨w', w1', w2', w3'⟩
          exact L_eq (by rw [w2, w2']; exact (keys_eq w1 w1').mpr (w3.symm.trans w3'))
      have l2 : T.length ≤ S.length := by
        refine rel_le (R := fun y x => ∃ w, (∀ u, u < 5 → (w u).natAbs ≤ 60) ∧ x.toInt = Kz w ∧ y.toInt = KM w) T S c3.2 ?_ ?_
        · intro y hy
          obtain ⟨w, w1, w2⟩ := (memT y).mp hy
          obtain ⟨x, hx⟩ := rKz w (bnd w w1)
          exact ⟨x, (memS x).mpr ⟨w, w1, hx⟩, w, bnd w w1, hx, w2⟩
        · rintro y y' x ⟨w, w1, w2, w3⟩ ⟨w', w1', w2', w3'⟩
          exact L_eq (by rw [w3, w3']; exact (keys_eq w1 w1').mp (w2.symm.trans w2'))
      have k3 : Kp σ2 σ3 := Kp_S c2 (by decide)
      refine ⟨nI r, σ2, σ3, ?_, ?_, fin_kp hn h (Kp_trans k1 (Kp_trans k2 k3))⟩
      · rw [if_pos g0, if_pos g3]
        unfold j_dimensionsHad_80
        have b1' : j_gather_84_61 12 (nI q) 0 (nI k) 0 σ1 = some (nI r, σ2) := by
          have := b1
          rw [Nat.sub_self] at this
          exact this
        rw [a1, bd_s, show σ1.1 51 0 = nI q by rw [FR_i a2 (by decide)]; exact (vSP h).1, b1', bd_s, bd_s]
      · rw [if_pos g0, if_pos g3, c1, show T.length = r by omega]
    · refine ⟨-6, rj 6 σ, rm 6 (rj 6 σ), ?_, ?_, fin_ref hn (by omega) (by omega) h (Kp_refl _) (Kp_refl _)⟩
      · rw [if_pos g0, if_neg g3, jr6, bd_s]
      · rw [if_pos g0, if_neg g3, mr6, bd_s]
  · refine ⟨-4, rj 4 σ, rm 4 (rj 4 σ), ?_, ?_, fin_ref hn (by omega) (by omega) h (Kp_refl _) (Kp_refl _)⟩
    · rw [if_neg g0, jr4, bd_s]
    · rw [if_neg g0, mr4, bd_s]
