/-! ===== PURE: fewest ===== -/
def fwf (σ : Sg) (q : Nat) (W : Nat → Int) : Nat → Nat → Option (List Nat)
  | 0, _ => none
  | e + 1, len => match fws σ q len W with
    | some l => some l
    | none => fwf σ q W e (len + 1)
theorem fwf_t {σ : Sg} {q e len : Nat} {W : Nat → Int} {l : List Nat} (h : fws σ q len W = some l) : fwf σ q W (e + 1) len = some l := by unfold fwf; rw [h]
theorem fwf_f {σ : Sg} {q e len : Nat} {W : Nat → Int} (h : fws σ q len W = none) : fwf σ q W (e + 1) len = fwf σ q W e (len + 1) := by
  show (match fws σ q len W with | some l => some l | none => fwf σ q W e (len + 1)) = _
  rw [h]
def fwv (o : Option (List Nat)) (i : Int32) : Int32 := match o with
  | none => -9
  | some l => if i = -1 then nI l.length else if (l.length : Int) ≤ i.toInt then -9 else nI (l.getD i.toInt.toNat 0)
theorem ky115 (σ : Sg) : j_keyOf_115 σ = some (ky (σ.1 115), σ) := by
  unfold j_keyOf_115
  refine loopE (L := fun n i s => j_keyOf_115_L11 n s 5 (nI i) σ) (N := 5) (P := fun i s => s = kyn (σ.1 115) i) (Q := fun r => r = some (ky (σ.1 115), σ)) ?_ ?_ (by decide) rfl
  · rintro n i s hi rfl
    refine ⟨_, ?_, rfl⟩
    show j_keyOf_115_H11 (j_keyOf_115_L11 n) _ 5 (nI i) σ = _
    unfold j_keyOf_115_H11
    rw [if_neg (show ¬ (5 : Int32) ≤ nI i from nI_ge (b := 5) hi (by decide)), inB_t hi (by omega), gd_t, cl_n (by omega), nI_1]
    rfl
  · rintro n s rfl
    show j_keyOf_115_H11 (j_keyOf_115_L11 n) _ 5 (nI 5) σ = _
    unfold j_keyOf_115_H11
    rw [if_pos (show (5 : Int32) ≤ nI 5 by decide)]; rfl
theorem i2t (k : Nat) : (2 : Int32) * nI k = nI (2 * k) := by rw [show (2 : Int32) = nI 2 from rfl, nI_mul]
theorem jfk {n q ver : Nat} {σ : Sg} (h : VV n q ver σ) : ∃ τ, j_findRow_80_115_L45 fu 0 σ = j_findRow_80_115_L107 fu (ky (σ.1 115)) 0 τ ∧ FR [82] σ τ ∧ ∀ f, f < 2 * q → (τ.2 82 f).toInt = Kz (fvz σ f) := by
  have hq := vq h
  refine loopE (L := fun m i s => j_findRow_80_115_L45 m (nI i) s) (N := q) (P := fun i τ => FR [82] σ τ ∧ ∀ f, f < 2 * i → (τ.2 82 f).toInt = Kz (fvz σ f)) (Q := fun r => ∃ τ, r = j_findRow_80_115_L107 fu (ky (σ.1 115)) 0 τ ∧ FR [82] σ τ ∧ ∀ f, f < 2 * q → (τ.2 82 f).toInt = Kz (fvz σ f)) ?_ ?_ (fu_lt (by omega)) ⟨FR_refl _ _, fun f hf => absurd hf (Nat.not_lt_zero _)⟩
  · rintro m i τ hi ⟨fr, g⟩
    have hk61 : τ.2 61 i = ky (dm σ i) := by rw [FR_l fr (by decide)]; exact (vSP h).2.2.1 i hi
    have hky := kyd (vMR h) hi
    have ld := Kz_le (v := dZ σ i) (fun u hu => by have := dZ_le (vMR h) hi hu; omega)
    have hky' : (ky (dm σ i)).toInt = Kz (dZ σ i) := hky
    refine ⟨sl (sl τ 82 (2 * i) (ky (dm σ i))) 82 (2 * i + 1) (-(ky (dm σ i))), ?_, FR_sl (FR_sl fr (by decide)) (by decide), ?_⟩
    · show j_findRow_80_115_H45 (j_findRow_80_115_L45 m) (nI i) τ = _
      unfold j_findRow_80_115_H45
      rw [FR_i fr (by decide), (vSP h).1, if_neg (nI_ge hi (by omega)), i2t, inB_t (by omega) (by omega), inB_t (show 2 * i < 16 by omega) (by omega), nI_1, inB_t (show 2 * i + 1 < 16 by omega) (by omega), gd_t, gd_t, gd_t, gd_t, cl_n (show 2 * i < 2 ^ 31 by omega), cl_n (show 2 * i + 1 < 2 ^ 31 by omega), cl_n (show i < 2 ^ 31 by omega), sl_c (by omega), hk61, nI_1]
    · intro f hf
      by_cases e1 : f = 2 * i + 1
      · rw [e1, sl_e, L_neg hky' (by omega)]
        have : Kz (fvz σ (2 * i + 1)) = Kz (fun u => (-1) * dZ σ i u) := Kz_cg (fun u _ => by
          unfold fvz
          rw [if_neg (by omega), show (2 * i + 1) / 2 = i by omega]; omega)
        rw [this, Kz_mul]; omega
      · rw [sl_j e1]
        by_cases e2 : f = 2 * i
        · rw [e2, sl_e, hky']
          exact Kz_cg (fun u _ => by
            unfold fvz
            rw [if_pos (by omega), show 2 * i / 2 = i by omega])
        · rw [sl_j e2]; exact g f (by omega)
  · rintro m τ ⟨fr, g⟩
    refine ⟨τ, ?_, fr, g⟩
    show j_findRow_80_115_H45 (j_findRow_80_115_L45 m) (nI q) τ = _
    unfold j_findRow_80_115_H45
    rw [FR_i fr (by decide), (vSP h).1, if_pos (nI_le (by omega) (by omega)), ky115, bd_s, FR_i fr (by decide)]
theorem jfr {n q ver : Nat} {W : Nat → Int} {σ : Sg} (h : VV n q ver σ) (hW : ∀ u, u < 5 → (σ.1 115 u).toInt = W u) : ∃ τ, FR [82, 83] σ τ ∧ ((∃ l, fwf σ q W 4 0 = some l ∧ l.length ≤ 3 ∧ j_findRow_80_115 σ = some (nI l.length, τ) ∧ ∀ i, i < l.length → τ.1 83 i = nI (l.getD i 0)) ∨ (fwf σ q W 4 0 = none ∧ j_findRow_80_115 σ = some (-9, τ))) := by
  have hq := vq h
  have hM := vMR h
  have st : ∀ m u, u < 5 → j_findRow_80_115_L8 (m + 1) 5 (nI u) σ = if nok (σ.1 115 u) then j_findRow_80_115_L8 m 5 (nI (u + 1)) σ else some (-9, σ) := by
    intro m u hu
    show j_findRow_80_115_H8 (j_findRow_80_115_L8 m) 5 (nI u) σ = _
    unfold j_findRow_80_115_H8 j_findRow_80_115_b34
    rw [if_neg (show ¬ (5 : Int32) ≤ nI u from nI_ge (b := 5) hu (by decide)), inB_t hu (by omega), gd_t, cl_n (by omega), nI_1]
    by_cases g1 : σ.1 115 u < -99
    · rw [if_pos g1, if_neg (fun h => (nok_lt.mpr h).1 g1)]
    · rw [if_neg g1]
      by_cases g2 : σ.1 115 u ≤ 99
      · rw [if_pos g2, if_pos (nok_lt.mp ⟨g1, g2⟩)]
      · rw [if_neg g2, if_neg (fun h => g2 (nok_lt.mpr h).2)]
  by_cases hall : ∀ u, u < 5 → nok (σ.1 115 u)
  · have beg : j_findRow_80_115 σ = j_findRow_80_115_L45 fu 0 σ := by
      unfold j_findRow_80_115
      refine loopE (L := fun m u (_ : Unit) => j_findRow_80_115_L8 m 5 (nI u) σ) (N := 5) (s := ()) (P := fun _ _ => True) (Q := fun r => r = j_findRow_80_115_L45 fu 0 σ) ?_ ?_ (by decide) trivial
      · rintro m u _ hu _
        exact ⟨(), by rw [st m u hu, if_pos (hall u hu)], trivial⟩
      · rintro m _ _
        show j_findRow_80_115_H8 (j_findRow_80_115_L8 m) 5 (nI 5) σ = _
        unfold j_findRow_80_115_H8
        rw [if_pos (show (5 : Int32) ≤ nI 5 by decide)]
    obtain ⟨τ0, w1, w2, w3⟩ := jfk h
    have hWl : ∀ u, u < 5 → (W u).natAbs ≤ 99 := fun u hu => by
      have := nok_int (hall u hu)
      rw [hW u hu] at this; omega
    have hkey : (ky (σ.1 115)).toInt = Kz W := by
      rw [ky_int (fun u hu => by have := hWl u hu; rw [← hW u hu] at this; omega)]
      exact Kz_cg hW
    rw [beg, w1]
    have key : ∀ e m len ρ, len + e = 4 → e < m → FR [82, 83] σ ρ → (∀ f, f < 2 * q → (ρ.2 82 f).toInt = Kz (fvz σ f)) → ∃ τ, FR [82, 83] σ τ ∧ ((∃ l, fwf σ q W e len = some l ∧ l.length ≤ 3 ∧ j_findRow_80_115_L107 m (ky (σ.1 115)) (nI len) ρ = some (nI l.length, τ) ∧ ∀ i, i < l.length → τ.1 83 i = nI (l.getD i 0)) ∨ (fwf σ q W e len = none ∧ j_findRow_80_115_L107 m (ky (σ.1 115)) (nI len) ρ = some (-9, τ))) := by
      intro e
      induction e with
      | zero =>
        intro m len ρ hl hm fr hF
        obtain ⟨m, rfl⟩ : ∃ j, m = j + 1 := ⟨m - 1, by omega⟩
        refine ⟨ρ, fr, Or.inr ⟨rfl, ?_⟩⟩
        show j_findRow_80_115_H107 (j_findRow_80_115_L107 m) _ (nI len) ρ = _
        unfold j_findRow_80_115_H107
        rw [if_pos (show (3 : Int32) < nI len from (gt_l (b := 3) (by omega)).mpr (by rw [nI_toInt (by omega)]; omega))]
      | succ e ih =>
        intro m len ρ hl hm fr hF
        obtain ⟨m, rfl⟩ : ∃ j, m = j + 1 := ⟨m - 1, by omega⟩
        have hr := jhr (q := q) (len := len) (σ := σ) hq hM (by omega) len 12 0 (ky (σ.1 115)) W ρ (by omega) (by omega) hkey (fun u hu => by have := hWl u hu; omega) hF
        have st2 : j_findRow_80_115_L107 (m + 1) (ky (σ.1 115)) (nI len) ρ = bd (j_hasRow_82_83 12 (nI (2 * q)) (nI 0) (nI len) (ky (σ.1 115)) ρ) fun r1 σ1 => if r1 = 0 then j_findRow_80_115_L107 m (ky (σ.1 115)) (nI (len + 1)) σ1 else some (nI len, σ1) := by
          show j_findRow_80_115_H107 (j_findRow_80_115_L107 m) _ (nI len) ρ = _
          unfold j_findRow_80_115_H107
          rw [if_neg (show ¬ (3 : Int32) < nI len from fun w => by have := (gt_l (b := 3) (by omega)).mp w; rw [nI_toInt (by omega)] at this; omega), FR_i fr (by decide), (vSP h).1, i2t, nI_1]; rfl
        rw [st2]
        cases hg : fws σ q len W with
        | none =>
          obtain ⟨ρ', y1, y2, _⟩ := hr.2 hg
          rw [y1, bd_s, if_pos rfl, fwf_f hg]
          exact ih m (len + 1) ρ' (by omega) (by omega) (FR_trans fr (FR_mono (by decide) y2)) (fun f hf => by rw [FR_l y2 (by decide)]; exact hF f hf)
        | some l =>
          obtain ⟨ρ', y1, y2, _, y4⟩ := hr.1 l hg
          have hll := fws_len σ q len W l hg
          rw [y1, bd_s, if_neg (by decide), fwf_t hg]
          refine ⟨ρ', FR_trans fr (FR_mono (by decide) y2), Or.inl ⟨l, rfl, by omega, by rw [hll], fun i hi => ?_⟩⟩
          have := y4 i (by omega)
          rw [Nat.zero_add] at this; exact this
    exact key 4 fu 0 τ0 (by omega) (fu_lt (by omega)) (FR_mono (by decide) w2) w3
  · have hfar : fwf σ q W 4 0 = none := by
      simp only [Classical.not_forall] at hall
      obtain ⟨u, hu, hnu⟩ := hall
      have hWu : (W u).natAbs > 99 := by
        refine Classical.byContradiction (fun w => hnu ?_)
        rw [← hW u hu] at w
        refine ⟨Int32.le_iff_toInt_le.mpr ?_, Int32.le_iff_toInt_le.mpr ?_⟩
        · rw [show (-99 : Int32).toInt = -99 by decide]; omega
        · rw [show (99 : Int32).toInt = 99 by decide]; omega
      rw [fwf_f (fws_far hM hu 0 W (by omega)), fwf_f (fws_far hM hu 1 W (by omega)), fwf_f (fws_far hM hu 2 W (by omega)), fwf_f (fws_far hM hu 3 W (by omega))]; rfl
    refine ⟨σ, FR_refl _ _, Or.inr ⟨hfar, ?_⟩⟩
    simp only [Classical.not_forall] at hall
    obtain ⟨y, hy, hny⟩ := hall
    unfold j_findRow_80_115
    refine loopQ (fun m u (_ : Unit) => j_findRow_80_115_L8 m 5 (nI u) σ) 5 (fun u _ => u ≤ y) (fun r => r = some (-9, σ)) ?_ ?_ 5 fu 0 () (by omega) (by decide) (Nat.zero_le _)
    · rintro m u _ hu hle
      rw [st m u hu]
      by_cases g : nok (σ.1 115 u)
      · rw [if_pos g]
        refine Or.inl ⟨(), rfl, ?_⟩
        have : u ≠ y := fun e => hny (e ▸ g)
        omega
      · rw [if_neg g]; exact Or.inr rfl
    · rintro m _ hle; omega
theorem jfa {n q ver : Nat} {W : Nat → Int} {i : Int32} {σ : Sg} (h : VV n q ver σ) (hi : -1 ≤ i) (hW : ∀ u, u < 5 → (σ.1 115 u).toInt = W u) : ∃ τ, FR [82, 83] σ τ ∧ j_fewestAt_80_115 i σ = some (fwv (fwf σ q W 4 0) i, τ) := by
  have hi1 : -1 ≤ i.toInt := by
    have := Int32.le_iff_toInt_le.mp hi
    rwa [show (-1 : Int32).toInt = -1 by decide] at this
  obtain ⟨τ, fr, hc⟩ := jfr h hW
  refine ⟨τ, fr, ?_⟩
  unfold j_fewestAt_80_115 j_fewestAt_80_115_b17 j_fewestAt_80_115_b37 j_fewestAt_80_115_b39
  rcases hc with ⟨l, g1, g2, g3, g4⟩ | ⟨g1, g2⟩
  · rw [g3, bd_s, g1]
    show _ = some (if i = -1 then nI l.length else if (l.length : Int) ≤ i.toInt then -9 else nI (l.getD i.toInt.toNat 0), τ)
    by_cases e : i = -1
    · rw [if_pos e, if_pos e]
    · have i0 : 0 ≤ i.toInt := by
        have : i.toInt ≠ -1 := fun w => e (Int32.toInt_inj.mp (by rw [w]; decide))
        omega
      rw [if_neg e, if_neg e, if_neg (fun w => by
        have := (eq_l (a := -9) (b := l.length) (by omega)).mp w.symm
        rw [show (-9 : Int32).toInt = -9 by decide] at this; omega), if_neg (fun w => by have := (lt_l (b := 0) (by omega)).mp w; omega)]
      by_cases e2 : (l.length : Int) ≤ i.toInt
      · rw [if_pos ((ge_l (by omega)).mpr e2), if_pos e2]
      · have hin : i = nI i.toInt.toNat := of_t (by omega) (by omega)
        rw [if_neg (fun w => e2 ((ge_l (by omega)).mp w)), if_neg e2]
        have hb : inB i 3 = true := by rw [hin]; exact inB_t (by omega) (by omega)
        have hcl : i.toNatClampNeg = i.toInt.toNat := rfl
        rw [hb, gd_t, hcl, g4 _ (by omega)]
  · rw [g2, bd_s, g1]
    show _ = some ((-9 : Int32), τ)
    by_cases e : i = -1
    · rw [if_pos e]
    · rw [if_neg e, if_pos rfl]
theorem mfo {n q ver : Nat} {W : Nat → Int} {i : Int32} {σ τ0 : Sg} (h : VV n q ver σ) (h80 : τ0.1 118 = σ.1 118) (hi : -1 ≤ i) (hW : ∀ u, u < 5 → (τ0.1 130 u).toInt = W u) : ∃ τ, FR [129] τ0 τ ∧ m_fewestOf_117 i τ0 = some (fwv (fwf σ q W 4 0) i, τ) := by
  have hq := vq h
  have hM := vMR h
  have hi1 : -1 ≤ i.toInt := by
    have := Int32.le_iff_toInt_le.mp hi
    rwa [show (-1 : Int32).toInt = -1 by decide] at this
  unfold m_fewestOf_117
  have key : ∀ e m len ρ, len + e = 4 → e < m → FR [129] τ0 ρ → ∃ τ, FR [129] τ0 τ ∧ m_fewestOf_117_L2 m i (nI len) ρ = some (fwv (fwf σ q W e len) i, τ) := by
    intro e
    induction e with
    | zero =>
      intro m len ρ hl hm fr
      obtain ⟨m, rfl⟩ : ∃ j, m = j + 1 := ⟨m - 1, by omega⟩
      refine ⟨ρ, fr, ?_⟩
      show m_fewestOf_117_H2 (m_fewestOf_117_L2 m) i (nI len) ρ = some ((-9 : Int32), ρ)
      unfold m_fewestOf_117_H2
      rw [if_pos (show (3 : Int32) < nI len from (gt_l (b := 3) (by omega)).mpr (by rw [nI_toInt (by omega)]; omega))]
    | succ e ih =>
      intro m len ρ hl hm fr
      obtain ⟨m, rfl⟩ : ∃ j, m = j + 1 := ⟨m - 1, by omega⟩
      have hr := mfl (q := q) (len := len) (σ := σ) (W := W) hq hM (by omega) len 12 0 (fun _ => 0) ρ (by omega) (by omega) ((FR_i fr (by decide)).trans h80) (fun u hu => by rw [FR_i fr (by decide)]; exact hW u hu) (fun j hj => absurd hj (Nat.not_lt_zero _))
      have hWe : (fun u => W u - fsum σ (fun _ => 0) u 0) = W := by
        funext u; show W u - 0 = W u; omega
      rw [hWe] at hr
      have st2 : m_fewestOf_117_L2 (m + 1) i (nI len) ρ = bd (m_fills_117 12 (nI 0) (nI len) ρ) fun r1 σ1 => if r1 = 0 then m_fewestOf_117_L2 m i (nI (len + 1)) σ1 else if 0 ≤ i then if nI len ≤ i then some (-9, σ1) else gd (inB i 3) (some (σ1.1 129 i.toNatClampNeg, σ1)) else some (nI len, σ1) := by
        show m_fewestOf_117_H2 (m_fewestOf_117_L2 m) i (nI len) ρ = _
        unfold m_fewestOf_117_H2 m_fewestOf_117_b40
        rw [if_neg (show ¬ (3 : Int32) < nI len from fun w => by have := (gt_l (b := 3) (by omega)).mp w; rw [nI_toInt (by omega)] at this; omega), nI_1]; rfl
      rw [st2]
      cases hg : fws σ q len W with
      | none =>
        obtain ⟨ρ', y1, y2, _⟩ := hr.2 hg
        rw [y1, bd_s, if_pos rfl, fwf_f hg]
        exact ih m (len + 1) ρ' (by omega) (by omega) (FR_trans fr y2)
      | some l =>
        obtain ⟨ρ', y1, y2, _, y4⟩ := hr.1 l hg
        have hll := fws_len σ q len W l hg
        rw [y1, bd_s, if_neg (by decide), fwf_t hg]
        refine ⟨ρ', FR_trans fr y2, ?_⟩
        show _ = some (if i = -1 then nI l.length else if (l.length : Int) ≤ i.toInt then -9 else nI (l.getD i.toInt.toNat 0), ρ')
        by_cases e1 : i = -1
        · rw [if_pos e1, if_neg (by rw [e1]; decide), hll]
        · have i0 : 0 ≤ i.toInt := by
            have : i.toInt ≠ -1 := fun w => e1 (Int32.toInt_inj.mp (by rw [w]; decide))
            omega
          rw [if_neg e1, if_pos (show 0 ≤ i from (ge_l (b := 0) (by omega)).mpr i0)]
          by_cases e2 : (l.length : Int) ≤ i.toInt
          · rw [if_pos ((ge_l (by omega)).mpr (by omega)), if_pos e2]
          · have hin : i = nI i.toInt.toNat := of_t (by omega) (by omega)
            rw [if_neg (fun w => e2 (by have := (ge_l (by omega)).mp w; omega)), if_neg e2]
            have hb : inB i 3 = true := by rw [hin]; exact inB_t (by omega) (by omega)
            have hcl : i.toNatClampNeg = i.toInt.toNat := rfl
            rw [hb, gd_t, hcl]
            have := y4 i.toInt.toNat (by omega)
            rw [Nat.zero_add] at this
            rw [this]
  exact key 4 fu 0 τ0 (by omega) (fu_lt (by omega)) (FR_refl _ _)
