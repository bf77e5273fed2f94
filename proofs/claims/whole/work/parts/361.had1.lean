/-! ===== PURE: a set of keys, by open addresses ===== -/
abbrev EMP : Int64 := -9223372036854775808
theorem fst_of {P : Nat → Prop} : ∀ n, P n → ∃ i, i ≤ n ∧ P i ∧ ∀ e, e < i → ¬ P e := by
  intro n
  induction n using Nat.strongRecOn with
  | ind n ih =>
    intro h
    by_cases g : ∃ e, e < n ∧ P e
    · obtain ⟨e, h1, h2⟩ := g
      obtain ⟨i, w1, w2, w3⟩ := ih e h1 h2
      exact ⟨i, by omega, w2, w3⟩
    · exact ⟨n, Nat.le_refl _, h, fun e he hp => g ⟨e, he, hp⟩⟩
/-- how many places are not empty -/
def occ (f : Nat → Int64) : Nat → Nat
  | 0 => 0
  | n + 1 => occ f n + (if f n = EMP then 0 else 1)
theorem occ_all {f : Nat → Int64} : ∀ n, (∀ j, j < n → f j ≠ EMP) → occ f n = n
  | 0, _ => rfl
  | n + 1, h => by
    show occ f n + (if f n = EMP then 0 else 1) = n + 1
    rw [occ_all n (fun j hj => h j (by omega)), if_neg (h n (by omega))]
theorem occ_none {f : Nat → Int64} : ∀ n, (∀ j, j < n → f j = EMP) → occ f n = 0
  | 0, _ => rfl
  | n + 1, h => by
    show occ f n + (if f n = EMP then 0 else 1) = 0
    rw [occ_none n (fun j hj => h j (by omega)), if_pos (h n (by omega))]
theorem occ_eq {f g : Nat → Int64} : ∀ n, (∀ j, j < n → g j = f j) → occ g n = occ f n
  | 0, _ => rfl
  | n + 1, h => by
    show occ g n + (if g n = EMP then 0 else 1) = occ f n + (if f n = EMP then 0 else 1)
    rw [occ_eq n (fun j hj => h j (by omega)), h n (by omega)]
theorem occ_set {f g : Nat → Int64} {j : Nat} (hj : f j = EMP) (hg : g j ≠ EMP) (ho : ∀ i, i ≠ j → g i = f i) : ∀ n, j < n → occ g n = occ f n + 1
  | 0, h => absurd h (Nat.not_lt_zero _)
  | n + 1, h => by
    show occ g n + (if g n = EMP then 0 else 1) = occ f n + (if f n = EMP then 0 else 1) + 1
    by_cases e : n = j
    · subst e
      rw [if_neg hg, if_pos hj, occ_eq n (fun i hi => ho i (by omega))]
    · rw [occ_set hj hg ho n (by omega), ho n e]; omega
theorem slot0 (z : Int64) : ∃ h, h < 1024 ∧ (lrm (lush z 40) 1024).toInt32 = nI h := by
  have hu : ∃ n : Nat, n < 16777216 ∧ (lush z 40).toInt = (n : Int) := by
    unfold lush
    rw [show ((40 : Int32).toInt64.toUInt64 &&& Int64.toUInt64 63) = 40 by decide]
    refine ⟨(z.toUInt64 >>> 40).toNat, ?_, ?_⟩
    · rw [UInt64.toNat_shiftRight]
      have := UInt64.toNat_lt z.toUInt64
      rw [show (40 : UInt64).toNat % 64 = 40 by decide, Nat.shiftRight_eq_div_pow]
      exact Nat.div_lt_of_lt_mul (by omega)
    · have hl : (z.toUInt64 >>> 40).toNat < 16777216 := by
        rw [UInt64.toNat_shiftRight]
        have := UInt64.toNat_lt z.toUInt64
        rw [show (40 : UInt64).toNat % 64 = 40 by decide, Nat.shiftRight_eq_div_pow]
        exact Nat.div_lt_of_lt_mul (by omega)
      show (z.toUInt64 >>> 40).toBitVec.toInt = _
      rw [BitVec.toInt_eq_toNat_bmod]
      exact bm64 (z := (((z.toUInt64 >>> 40).toNat : Nat) : Int)) (by omega) (by omega)
  obtain ⟨n, hn, hu⟩ := hu
  refine ⟨n % 1024, Nat.mod_lt _ (by decide), Int32.toInt_inj.mp ?_⟩
  have hr : (lrm (lush z 40) 1024).toInt = ((n % 1024 : Nat) : Int) := by
    rw [L_rem hu (show (1024 : Int64).toInt = 1024 by decide) (by omega)]
    exact (Int.ofNat_tmod n 1024).symm
  have hm := Nat.mod_lt n (show 0 < 1024 by decide)
  rw [Int64.toInt_toInt32, hr, nI_toInt (by omega)]
  exact bm32 (by omega) (by omega)
/-- where the search for a key begins -/
def hs (k : Int64) : Nat := (((lrm (lush (k * (-7046029254386353131)) 40) 1024).toInt32).toNatClampNeg) % 1024
theorem hs_eq (k : Int64) : (lrm (lush (k * (-7046029254386353131)) 40) 1024).toInt32 = nI (hs k) ∧ hs k < 1024 := by
  obtain ⟨h, h1, h2⟩ := slot0 (k * (-7046029254386353131))
  unfold hs
  rw [h2, cl_n (by omega), Nat.mod_eq_of_lt h1]
  exact ⟨rfl, h1⟩
/-- the places of cell 84 hold the keys of S -/
def HT (S : List Int64) (f : Nat → Int64) : Prop :=
  (∀ j, j < 1024 → f j = EMP ∨ f j ∈ S) ∧ (∀ x, x ∈ S → x ≠ EMP ∧ ∃ i, i < 1024 ∧ f ((hs x + i) % 1024) = x ∧ ∀ e, e < i → f ((hs x + e) % 1024) ≠ EMP) ∧ S.Nodup ∧ occ f 1024 ≤ S.length
theorem HT_free {S : List Int64} {f : Nat → Int64} (h : HT S f) (hS : S.length < 1024) (k : Nat) : ∃ i, i < 1024 ∧ f ((k + i) % 1024) = EMP := by
  have ⟨j, hj, hf⟩ : ∃ j, j < 1024 ∧ f j = EMP := by
    apply Classical.byContradiction
    intro hno
    have := occ_all (f := f) 1024 (fun j hj e => hno ⟨j, hj, e⟩)
    have := h.2.2.2
    omega
  refine ⟨(j + 1024 - k % 1024) % 1024, Nat.mod_lt _ (by decide), ?_⟩
  rw [show (k + (j + 1024 - k % 1024) % 1024) % 1024 = j by omega]
  exact hf
theorem jnew_walk {h i0 : Nat} {k : Int64} {τ : Sg} (hi0 : i0 < 1024) (hw : ∀ e, e < i0 → τ.2 84 ((h + e) % 1024) ≠ k ∧ τ.2 84 ((h + e) % 1024) ≠ EMP) : ∀ d i m, i + d = i0 → d < m → ∃ m', j_isNew_84_L17 m k (nI ((h + i) % 1024)) (nI i) τ = j_isNew_84_L17 (m' + 1) k (nI ((h + i0) % 1024)) (nI i0) τ
  | 0, i, m, hd, hm => by
    obtain rfl : i = i0 := by omega
    exact ⟨m - 1, by rw [show m - 1 + 1 = m by omega]⟩
  | d + 1, i, m, hd, hm => by
    obtain ⟨m, rfl⟩ : ∃ j, m = j + 1 := ⟨m - 1, by omega⟩
    obtain ⟨m', hr⟩ := jnew_walk hi0 hw d (i + 1) m (by omega) (by omega)
    refine ⟨m', ?_⟩
    rw [← hr]
    have hml := Nat.mod_lt (h + i) (show 0 < 1024 by decide)
    obtain ⟨w1, w2⟩ := hw i (by omega)
    show j_isNew_84_H17 (j_isNew_84_L17 m) k (nI ((h + i) % 1024)) (nI i) τ = _
    unfold j_isNew_84_H17
    rw [if_neg (show ¬ (1024 : Int32) ≤ nI i from nI_ge (b := 1024) (by omega) (by decide)), inB_t (by omega) (by omega), gd_t, gd_t, cl_n (by omega), if_neg (fun w => w1 (cmp_eq.mp w)), if_neg (fun w => w2 (cmp_eq.mp w)), nI_1, nI_1, show (1024 : Int32) = nI 1024 from rfl, nI_rem (by omega) (by omega) (by omega), show ((h + i) % 1024 + 1) % 1024 = (h + (i + 1)) % 1024 by omega]
theorem jnew {S : List Int64} {τ : Sg} {k : Int64} (h : HT S (τ.2 84)) (hS : S.length < 1024) (hk : k ≠ EMP) : (k ∈ S ∧ j_isNew_84 k τ = some (0, τ)) ∨ (k ∉ S ∧ ∃ τ', j_isNew_84 k τ = some (1, τ') ∧ FR [84] τ τ' ∧ HT (k :: S) (τ'.2 84)) := by
  obtain ⟨e0, hh⟩ := hs_eq k
  have st : j_isNew_84 k τ = j_isNew_84_L17 fu k (nI ((hs k + 0) % 1024)) (nI 0) τ := by
    unfold j_isNew_84
    rw [e0, Nat.add_zero, Nat.mod_eq_of_lt hh]; rfl
  by_cases hkS : k ∈ S
  · left
    refine ⟨hkS, ?_⟩
    obtain ⟨i1, hi1, hf1, hb1⟩ := (h.2.1 k hkS).2
    obtain ⟨i0, hi0, hf0, hb0⟩ := fst_of (P := fun i => τ.2 84 ((hs k + i) % 1024) = k) i1 hf1
    obtain ⟨m', hr⟩ := jnew_walk (h := hs k) (i0 := i0) (k := k) (τ := τ) (by omega) (fun e he => ⟨hb0 e he, hb1 e (by omega)⟩) i0 0 fu (by omega) (fu_lt (by omega))
    rw [st, hr]
    have hml := Nat.mod_lt (hs k + i0) (show 0 < 1024 by decide)
    show j_isNew_84_H17 (j_isNew_84_L17 m') k (nI ((hs k + i0) % 1024)) (nI i0) τ = _
    unfold j_isNew_84_H17
    rw [if_neg (show ¬ (1024 : Int32) ≤ nI i0 from nI_ge (b := 1024) (by omega) (by decide)), inB_t (by omega) (by omega), gd_t, gd_t, cl_n (by omega), if_pos (cmp_eq.mpr hf0)]
  · right
    refine ⟨hkS, ?_⟩
    obtain ⟨i1, hi1, hf1⟩ := HT_free h hS (hs k)
    obtain ⟨i0, hi0, hf0, hb0⟩ := fst_of (P := fun i => τ.2 84 ((hs k + i) % 1024) = EMP) i1 hf1
    have hne : ∀ j, j < 1024 → τ.2 84 j ≠ k := by
      intro j hj e
      rcases h.1 j hj with w | w
      · exact hk (e ▸ w)
      · exact hkS (e ▸ w)
    obtain ⟨m', hr⟩ := jnew_walk (h := hs k) (i0 := i0) (k := k) (τ := τ) (by omega) (fun e he => ⟨hne _ (Nat.mod_lt _ (by decide)), hb0 e he⟩) i0 0 fu (by omega) (fu_lt (by omega))
    have hml := Nat.mod_lt (hs k + i0) (show 0 < 1024 by decide)
    refine ⟨sl τ 84 ((hs k + i0) % 1024) k, ?_, FR_sl (FR_refl _ _) (by decide), ?_⟩
    · rw [st, hr]
      show j_isNew_84_H17 (j_isNew_84_L17 m') k (nI ((hs k + i0) % 1024)) (nI i0) τ = _
      unfold j_isNew_84_H17
      rw [if_neg (show ¬ (1024 : Int32) ≤ nI i0 from nI_ge (b := 1024) (by omega) (by decide)), inB_t (by omega) (by omega), gd_t, gd_t, cl_n (by omega), if_neg (fun w => hne _ hml (cmp_eq.mp w)), if_pos (cmp_eq.mpr hf0), gd_t]
    · have hf0' : τ.2 84 ((hs k + i0) % 1024) = EMP := hf0
      obtain ⟨j0, hj0⟩ : ∃ j0, j0 = (hs k + i0) % 1024 := ⟨_, rfl⟩
      rw [← hj0] at hml hf0' ⊢
      have same : ∀ i, i ≠ j0 → (sl τ 84 j0 k).2 84 i = τ.2 84 i := fun i hi => sl_j hi
      have keep : ∀ i, τ.2 84 i ≠ EMP → (sl τ 84 j0 k).2 84 i = τ.2 84 i := fun i hi => same i (fun e => hi (e ▸ hf0'))
      have nemp : ∀ i, τ.2 84 i ≠ EMP → (sl τ 84 j0 k).2 84 i ≠ EMP := fun i hi => by rw [keep i hi]; exact hi
      refine ⟨?_, ?_, List.nodup_cons.mpr ⟨hkS, h.2.2.1⟩, ?_⟩
      · intro j hj
        by_cases e : j = j0
        · right; rw [e, sl_e]; exact List.mem_cons_self ..
        · rw [same j e]
          rcases h.1 j hj with w | w
          · exact Or.inl w
          · exact Or.inr (List.mem_cons_of_mem _ w)
      · intro x hx
        rcases List.mem_cons.mp hx with rfl | hx
        · refine ⟨hk, i0, by omega, by rw [← hj0, sl_e], fun e he => ?_⟩
          exact nemp _ (hb0 e he)
        · obtain ⟨w1, i, w2, w3, w4⟩ := h.2.1 x hx
          refine ⟨w1, i, w2, ?_, fun e he => nemp _ (w4 e he)⟩
          rw [keep _ (by rw [w3]; exact w1)]; exact w3
      · rw [occ_set (f := τ.2 84) (g := (sl τ 84 j0 k).2 84) (j := j0) hf0' (by rw [sl_e]; exact hk) same 1024 hml]
        have := h.2.2.2
        simp only [List.length_cons]
        omega
theorem jfil84 (σ : Sg) : ∃ σ1, j_fillAJJ_84 (-9223372036854775808) σ = some ((), σ1) ∧ FR [84] σ σ1 ∧ HT [] (σ1.2 84) := by
  unfold j_fillAJJ_84
  have : ∃ σ1, j_fillAJJ_84_L6 fu (-9223372036854775808) 0 1024 σ = some ((), σ1) ∧ FR [84] σ σ1 ∧ ∀ j, j < 1024 → σ1.2 84 j = EMP := by
    refine loopE (L := fun m i (s : Sg) => j_fillAJJ_84_L6 m (-9223372036854775808) (nI i) 1024 s) (N := 1024) (P := fun i s => FR [84] σ s ∧ ∀ j, j < i → s.2 84 j = EMP) (Q := fun r => ∃ σ1, r = some ((), σ1) ∧ FR [84] σ σ1 ∧ ∀ j, j < 1024 → σ1.2 84 j = EMP) ?_ ?_ (fu_lt (by omega)) ⟨FR_refl _ _, fun j hj => absurd hj (Nat.not_lt_zero _)⟩
    · rintro m i s hi ⟨fr, pr⟩
      refine ⟨sl s 84 i EMP, ?_, FR_sl fr (by decide), fun j hj => ?_⟩
      · show j_fillAJJ_84_H6 (j_fillAJJ_84_L6 m) _ (nI i) 1024 s = _
        unfold j_fillAJJ_84_H6
        rw [if_neg (show ¬ (1024 : Int32) ≤ nI i from nI_ge (b := 1024) (by omega) (by decide)), inB_t (by omega) (by omega), gd_t, cl_n (by omega), nI_1] <;> rfl
      · by_cases e : j = i
        · rw [e, sl_e]
        · rw [sl_j e]; exact pr j (by omega)
    · rintro m s g
      refine ⟨s, ?_, g⟩
      show j_fillAJJ_84_H6 (j_fillAJJ_84_L6 m) _ (nI 1024) 1024 s = _
      unfold j_fillAJJ_84_H6
      rw [if_pos (show (1024 : Int32) ≤ nI 1024 by decide)]
  obtain ⟨σ1, w1, w2, w3⟩ := this
  exact ⟨σ1, w1, w2, fun j hj => Or.inl (w3 j hj), fun x hx => absurd hx (List.not_mem_nil), List.nodup_nil, by rw [occ_none 1024 w3]; exact Nat.zero_le _⟩
