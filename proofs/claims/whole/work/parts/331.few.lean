/-! ===== PURE: rows of FACTORS ===== -/
def fvz (σ : Sg) (f u : Nat) : Int := if f % 2 = 0 then dZ σ (f / 2) u else -(dZ σ (f / 2) u)
def fsm (g : Nat → Option (List Nat)) : Nat → Nat → Option (List Nat)
  | 0, _ => none
  | e + 1, p => match g p with
    | some l => some (p :: l)
    | none => fsm g e (p + 1)
def fws (σ : Sg) (q : Nat) : Nat → (Nat → Int) → Option (List Nat)
  | 0, v => if zr5 v = true then some [] else none
  | d + 1, v => fsm (fun f => fws σ q d (fun u => v u - fvz σ f u)) (2 * q) 0
theorem fsm_t {g : Nat → Option (List Nat)} {e p : Nat} {l : List Nat} (h : g p = some l) : fsm g (e + 1) p = some (p :: l) := by unfold fsm; rw [h]
theorem fsm_f {g : Nat → Option (List Nat)} {e p : Nat} (h : g p = none) : fsm g (e + 1) p = fsm g e (p + 1) := by
  show (match g p with | some l => some (p :: l) | none => fsm g e (p + 1)) = _
  rw [h]
theorem fsm_len {g : Nat → Option (List Nat)} {d : Nat} (hg : ∀ p l, g p = some l → l.length = d) : ∀ e p l, fsm g e p = some l → l.length = d + 1
  | 0, p, l, h => by cases h
  | e + 1, p, l, h => by
    cases hp : g p with
    | none => rw [fsm_f hp] at h; exact fsm_len hg e (p + 1) l h
    | some l' =>
      rw [fsm_t hp] at h
      obtain rfl : p :: l' = l := by simpa using h
      simp [hg p l' hp]
theorem fws_len (σ : Sg) (q : Nat) : ∀ d v l, fws σ q d v = some l → l.length = d
  | 0, v, l, h => by
    unfold fws at h
    split at h
    · obtain rfl : [] = l := by simpa using h
      rfl
    · cases h
  | d + 1, v, l, h => fsm_len (fun p l' h' => fws_len σ q d _ l' h') (2 * q) 0 l h
theorem fvz_le {q f u : Nat} {σ : Sg} (hM : MR 1 118 q σ) (hf : f < 2 * q) (hu : u < 5) : (fvz σ f u).natAbs ≤ 20 := by
  have := dZ_le hM (show f / 2 < q by omega) hu
  unfold fvz
  split <;> omega
/-- far ones are not had -/
theorem fws_far {q : Nat} {σ : Sg} (hM : MR 1 118 q σ) {u : Nat} (hu : u < 5) : ∀ d v, (v u).natAbs > 20 * d → fws σ q d v = none
  | 0, v, h => by
    unfold fws
    rw [if_neg (fun w => by have := zr5_iff.mp w u hu; rw [this] at h; simp at h)]
  | d + 1, v, h => by
    have key : ∀ e p, p + e = 2 * q → fsm (fun f => fws σ q d (fun u => v u - fvz σ f u)) e p = none := by
      intro e
      induction e with
      | zero => intro p _; rfl
      | succ e ih =>
        intro p hp
        have hF := fvz_le hM (show p < 2 * q by omega) hu
        rw [fsm_f (fws_far hM hu d (fun u => v u - fvz σ p u) (by show (v u - fvz σ p u).natAbs > _; omega))]
        exact ih (p + 1) (by omega)
    exact key (2 * q) 0 (by omega)
/-- the class's row -/
theorem jhr {q len : Nat} {σ : Sg} (hq : q ≤ 8) (hM : MR 1 118 q σ) (hlen : len ≤ 3) : ∀ d m k (x : Int64) (v : Nat → Int) (τ : Sg), k + d = len → d < m → x.toInt = Kz v → (∀ u, u < 5 → (v u).natAbs ≤ 99 + 20 * k) → (∀ f, f < 2 * q → (τ.2 82 f).toInt = Kz (fvz σ f)) → (∀ l, fws σ q d v = some l → ∃ τ', j_hasRow_82_83 m (nI (2 * q)) (nI k) (nI len) x τ = some (1, τ') ∧ FR [83] τ τ' ∧ (∀ i, i < k → τ'.1 83 i = τ.1 83 i) ∧ ∀ i, i < d → τ'.1 83 (k + i) = nI (l.getD i 0)) ∧ (fws σ q d v = none → ∃ τ', j_hasRow_82_83 m (nI (2 * q)) (nI k) (nI len) x τ = some (0, τ') ∧ FR [83] τ τ' ∧ ∀ i, i < k → τ'.1 83 i = τ.1 83 i)
  | 0, m, k, x, v, τ, hk, hm, hx, hv, hF => by
    obtain ⟨m, rfl⟩ : ∃ j, m = j + 1 := ⟨m - 1, by omega⟩
    have hz := Kz_0 (v := v) (fun u hu => by have := hv u hu; omega)
    have st : j_hasRow_82_83 (m + 1) (nI (2 * q)) (nI k) (nI len) x τ = some (if zr5 v = true then 1 else 0, τ) := by
      show j_hasRow_82_83_H (j_hasRow_82_83 m) _ (nI k) (nI len) x τ = _
      unfold j_hasRow_82_83_H j_hasRow_82_83_b18
      rw [if_neg (nI_nlt (by omega) (by omega))]
      by_cases g : zr5 v = true
      · rw [if_pos (cmp_eq.mpr (L_eq (by rw [hx, hz.mpr (zr5_iff.mp g)]; rfl))), if_pos g]; rfl
      · rw [if_neg (fun w => g (zr5_iff.mpr (hz.mp (by rw [← hx, cmp_eq.mp w]; rfl)))), if_neg g]; rfl
    rw [st]
    unfold fws
    constructor
    · intro l hl
      by_cases g : zr5 v = true
      · rw [if_pos g]; exact ⟨τ, rfl, FR_refl _ _, fun _ _ => rfl, fun i hi => absurd hi (Nat.not_lt_zero _)⟩
      · rw [if_neg g] at hl; cases hl
    · intro hl
      by_cases g : zr5 v = true
      · rw [if_pos g] at hl; cases hl
      · rw [if_neg g]; exact ⟨τ, rfl, FR_refl _ _, fun _ _ => rfl⟩
  | d + 1, m, k, x, v, τ, hk, hm, hx, hv, hF => by
    obtain ⟨m, rfl⟩ : ∃ j, m = j + 1 := ⟨m - 1, by omega⟩
    have st : j_hasRow_82_83 (m + 1) (nI (2 * q)) (nI k) (nI len) x τ = j_hasRow_82_83_L22 (j_hasRow_82_83 m) fu (nI (2 * q)) (nI k) (nI len) x (nI 0) τ := by
      show j_hasRow_82_83_H (j_hasRow_82_83 m) _ (nI k) (nI len) x τ = _
      unfold j_hasRow_82_83_H
      rw [if_pos (nI_lt (by omega) (by omega))]; rfl
    rw [st]
    have key : ∀ e mm f (ρ : Sg), f + e = 2 * q → e < mm → FR [83] τ ρ → (∀ i, i < k → ρ.1 83 i = τ.1 83 i) → (∀ l, fsm (fun f => fws σ q d (fun u => v u - fvz σ f u)) e f = some l → ∃ τ', j_hasRow_82_83_L22 (j_hasRow_82_83 m) mm (nI (2 * q)) (nI k) (nI len) x (nI f) ρ = some (1, τ') ∧ FR [83] τ τ' ∧ (∀ i, i < k → τ'.1 83 i = τ.1 83 i) ∧ ∀ i, i < d + 1 → τ'.1 83 (k + i) = nI (l.getD i 0)) ∧ (fsm (fun f => fws σ q d (fun u => v u - fvz σ f u)) e f = none → ∃ τ', j_hasRow_82_83_L22 (j_hasRow_82_83 m) mm (nI (2 * q)) (nI k) (nI len) x (nI f) ρ = some (0, τ') ∧ FR [83] τ τ' ∧ ∀ i, i < k → τ'.1 83 i = τ.1 83 i) := by
      intro e
      induction e with
      | zero =>
        intro mm f ρ hf hmm fr pr
        obtain ⟨mm, rfl⟩ : ∃ j, mm = j + 1 := ⟨mm - 1, by omega⟩
        refine ⟨fun l hl => (by cases hl), fun _ => ⟨ρ, ?_, fr, pr⟩⟩
        show j_hasRow_82_83_H22 (j_hasRow_82_83 m) (j_hasRow_82_83_L22 (j_hasRow_82_83 m) mm) _ _ _ x (nI f) ρ = _
        unfold j_hasRow_82_83_H22
        rw [if_pos (nI_le (by omega) (by omega))]
      | succ e ih =>
        intro mm f ρ hf hmm fr pr
        obtain ⟨mm, rfl⟩ : ∃ j, mm = j + 1 := ⟨mm - 1, by omega⟩
        have hf2 : f < 2 * q := by omega
        have hkf : (ρ.2 82 f).toInt = Kz (fvz σ f) := by rw [FR_l fr (by decide)]; exact hF f hf2
        have hFl : ∀ u, u < 5 → (fvz σ f u).natAbs ≤ 20 := fun u hu => fvz_le hM hf2 hu
        have lx := Kz_le (v := v) (fun u hu => by have := hv u hu; omega)
        have ld := Kz_le (v := fvz σ f) (fun u hu => by have := hFl u hu; omega)
        have ex : (x - ρ.2 82 f).toInt = Kz (fun u => v u - fvz σ f u) := by
          rw [Kz_sub]; exact L_sub hx hkf (by omega) (by omega)
        have hrec := jhr (q := q) (len := len) (σ := σ) hq hM hlen d m (k + 1) (x - ρ.2 82 f) (fun u => v u - fvz σ f u) (si ρ 83 k (nI f)) (by omega) (by omega) ex (fun u hu => by
          have w1 := hv u hu
          have w2 := hFl u hu
          omega) (fun f' hf' => by rw [si_l, FR_l fr (by decide)]; exact hF f' hf')
        have st2 : j_hasRow_82_83_L22 (j_hasRow_82_83 m) (mm + 1) (nI (2 * q)) (nI k) (nI len) x (nI f) ρ = bd (j_hasRow_82_83 m (nI (2 * q)) (nI (k + 1)) (nI len) (x - ρ.2 82 f) (si ρ 83 k (nI f))) fun r3 σ3 => if r3 = 0 then j_hasRow_82_83_L22 (j_hasRow_82_83 m) mm (nI (2 * q)) (nI k) (nI len) x (nI (f + 1)) σ3 else some (1, σ3) := by
          show j_hasRow_82_83_H22 (j_hasRow_82_83 m) (j_hasRow_82_83_L22 (j_hasRow_82_83 m) mm) _ _ _ x (nI f) ρ = _
          unfold j_hasRow_82_83_H22
          rw [if_neg (nI_ge hf2 (by omega)), inB_t (by omega) (by omega), inB_t (by omega) (by omega), gd_t, gd_t, cl_n (by omega), cl_n (by omega), si_l, nI_1, nI_1]
        rw [st2]
        cases hg : fws σ q d (fun u => v u - fvz σ f u) with
        | none =>
          obtain ⟨ρ', w1, w2, w3⟩ := hrec.2 hg
          rw [w1, bd_s, if_pos rfl, fsm_f (g := fun f => fws σ q d (fun u => v u - fvz σ f u)) hg]
          exact ih mm (f + 1) ρ' (by omega) (by omega) (FR_trans (FR_si fr (by decide)) w2) (fun i hi => by rw [w3 i (by omega), si_j (by omega)]; exact pr i hi)
        | some l' =>
          obtain ⟨ρ', w1, w2, w3, w4⟩ := hrec.1 l' hg
          rw [w1, bd_s, if_neg (by decide), fsm_t (g := fun f => fws σ q d (fun u => v u - fvz σ f u)) hg]
          refine ⟨fun l hl => ?_, fun hl => (by cases hl)⟩
          obtain rfl : f :: l' = l := by simpa using hl
          refine ⟨ρ', rfl, FR_trans (FR_si fr (by decide)) w2, fun i hi => by rw [w3 i (by omega), si_j (by omega)]; exact pr i hi, ?_⟩
          intro i hi
          cases i with
          | zero => rw [Nat.add_zero, w3 k (by omega), si_e]; rfl
          | succ i =>
            rw [show k + (i + 1) = k + 1 + i by omega, w4 i (by omega)]; rfl
    exact key (2 * q) fu 0 τ (by omega) (fu_lt (by omega)) (FR_refl _ _) (fun _ _ => rfl)
/-! the reference's -/
def fsum (σ : Sg) (fac : Nat → Nat) (u : Nat) : Nat → Int
  | 0 => 0
  | k + 1 => fsum σ fac u k + fvz σ (fac k) u
theorem fsum_cg {σ : Sg} {fac fac' : Nat → Nat} {u : Nat} : ∀ k, (∀ j, j < k → fac' j = fac j) → fsum σ fac' u k = fsum σ fac u k
  | 0, _ => rfl
  | k + 1, h => by
    show fsum σ fac' u k + fvz σ (fac' k) u = fsum σ fac u k + fvz σ (fac k) u
    rw [fsum_cg k (fun j hj => h j (by omega)), h k (by omega)]
theorem fsum_le {q u : Nat} {σ : Sg} {fac : Nat → Nat} (hM : MR 1 118 q σ) (hu : u < 5) : ∀ k, (∀ j, j < k → fac j < 2 * q) → (fsum σ fac u k).natAbs ≤ 20 * k
  | 0, _ => by show (0 : Int).natAbs ≤ 0; decide
  | k + 1, h => by
    have ih := fsum_le hM hu k (fun j hj => h j (by omega))
    have hF := fvz_le hM (h k (by omega)) hu
    show (fsum σ fac u k + fvz σ (fac k) u).natAbs ≤ _
    omega
theorem mpby {q len u : Nat} {σ τ : Sg} {fac : Nat → Nat} (hq : q ≤ 8) (hM : MR 1 118 q σ) (h8 : τ.1 118 = σ.1 118) (hlen : len ≤ 3) (hu : u < 5) (hf : ∀ j, j < len → τ.1 129 j = nI (fac j) ∧ fac j < 2 * q) : ∃ r, m_powerBy_117 (nI len) (nI u) τ = some (r, τ) ∧ r.toInt = fsum σ fac u len := by
  unfold m_powerBy_117
  refine loopE (L := fun m k (s : Int32) => m_powerBy_117_L5 m (nI len) (nI u) s (nI k) τ) (N := len) (P := fun k s => s.toInt = fsum σ fac u k) (Q := fun r => ∃ r', r = some (r', τ) ∧ r'.toInt = fsum σ fac u len) ?_ ?_ (fu_lt (by omega)) rfl
  · rintro m k s hk g
    obtain ⟨e, he⟩ := hf k hk
    have hl := fsum_le (fac := fac) hM hu k (fun j hj => (hf j (by omega)).2)
    have hFl := fvz_le hM he hu
    have hd := dZ_le hM (show fac k / 2 < q by omega) hu
    have hm2 := Nat.mod_lt (fac k) (show 0 < 2 by omega)
    have hpw : m_powerOf_117 (nI (fac k / 2)) (nI u) τ = some (dm σ (fac k / 2) u, τ) := by rw [mpw (by omega) hu, dm_fr h8]
    have st : m_powerBy_117_L5 (m + 1) (nI len) (nI u) s (nI k) τ = m_powerBy_117_L5 m (nI len) (nI u) (s + (if fac k % 2 = 0 then dm σ (fac k / 2) u else -(dm σ (fac k / 2) u))) (nI (k + 1)) τ := by
      show m_powerBy_117_H5 (m_powerBy_117_L5 m) _ _ s (nI k) τ = _
      unfold m_powerBy_117_H5 m_powerBy_117_b48
      rw [if_neg (nI_ge hk (by omega)), inB_t (by omega) (by omega), gd_t, cl_n (by omega), e, show (2 : Int32) = nI 2 from rfl, nI_div (by omega) (by omega) (by omega), hpw, bd_s, gd_t, e, nI_rem (by omega) (by omega) (by omega), nI_1]
      by_cases g : fac k % 2 = 0
      · rw [if_pos (show nI (fac k % 2) = 0 by rw [g]; rfl), if_pos g]
      · rw [if_neg (show ¬ nI (fac k % 2) = 0 from fun w => g ((nI_eq (b := 0) (by omega) (by omega)).mp w)), if_neg g]
    refine ⟨_, st, ?_⟩
    have hv : (if fac k % 2 = 0 then dm σ (fac k / 2) u else -(dm σ (fac k / 2) u)).toInt = fvz σ (fac k) u := by
      unfold fvz dZ
      by_cases g : fac k % 2 = 0
      · rw [if_pos g, if_pos g]
      · rw [if_neg g, if_neg g, Int32.toInt_neg]
        unfold dZ at hd
        exact bm32 (by omega) (by omega)
    show _ = fsum σ fac u k + fvz σ (fac k) u
    rw [Int32.toInt_add, hv, g]
    exact bm32 (by omega) (by omega)
  · rintro m s g
    refine ⟨s, ?_, g⟩
    show m_powerBy_117_H5 (m_powerBy_117_L5 m) _ _ s (nI len) τ = _
    unfold m_powerBy_117_H5
    rw [if_pos (nI_le (by omega) (by omega))]
theorem mwan {q len : Nat} {σ τ : Sg} {fac : Nat → Nat} {W : Nat → Int} (hq : q ≤ 8) (hM : MR 1 118 q σ) (h8 : τ.1 118 = σ.1 118) (hlen : len ≤ 3) (hf : ∀ j, j < len → τ.1 129 j = nI (fac j) ∧ fac j < 2 * q) (hW : ∀ u, u < 5 → (τ.1 130 u).toInt = W u) : m_isWanted_117 (nI len) τ = some (if zr5 (fun u => W u - fsum σ fac u len) = true then 1 else 0, τ) := by
  have hc : cj (fun u => decide (W u - fsum σ fac u len = 0)) 5 = if zr5 (fun u => W u - fsum σ fac u len) = true then 1 else 0 := cj_ite (by rw [zr5_iff]; simp only [decide_eq_true_eq])
  rw [← hc]
  unfold m_isWanted_117
  refine loopE (L := fun m u (s : Int32) => m_isWanted_117_L4 m (nI len) s (nI u) τ) (N := 5) (P := fun u s => s = cj (fun u => decide (W u - fsum σ fac u len = 0)) u) (Q := fun r => r = some (cj (fun u => decide (W u - fsum σ fac u len = 0)) 5, τ)) ?_ ?_ (by decide) rfl
  · rintro m u s hu rfl
    refine ⟨_, ?_, rfl⟩
    obtain ⟨r, w1, w2⟩ := mpby (u := u) hq hM h8 hlen hu hf
    show m_isWanted_117_H4 (m_isWanted_117_L4 m) _ _ (nI u) τ = m_isWanted_117_L4 m (nI len) (_ &&& (if decide (W u - fsum σ fac u len = 0) = true then (1 : Int32) else 0)) (nI (u + 1)) τ
    unfold m_isWanted_117_H4 m_isWanted_117_b30
    rw [if_neg (show ¬ (5 : Int32) ≤ nI u from nI_ge (b := 5) hu (by decide)), w1, bd_s, inB_t (by omega) (by omega), gd_t, cl_n (by omega), nI_1]
    have hr : r = τ.1 130 u ↔ W u - fsum σ fac u len = 0 := by
      rw [← hW u hu, ← w2]
      constructor
      · intro e; rw [e]; omega
      · intro e; exact Int32.toInt_inj.mp (by omega)
    by_cases g : W u - fsum σ fac u len = 0
    · rw [if_pos (hr.mpr g), if_pos (by simpa using g)]
    · rw [if_neg (fun w => g (hr.mp w)), if_neg (by simpa using g)]
  · rintro m s rfl
    show m_isWanted_117_H4 (m_isWanted_117_L4 m) _ _ (nI 5) τ = _
    unfold m_isWanted_117_H4
    rw [if_pos (show (5 : Int32) ≤ nI 5 by decide), cj_nb, gd_t]
theorem mfl {q len : Nat} {σ : Sg} {W : Nat → Int} (hq : q ≤ 8) (hM : MR 1 118 q σ) (hlen : len ≤ 3) : ∀ d m k (fac : Nat → Nat) (τ : Sg), k + d = len → d < m → τ.1 118 = σ.1 118 → (∀ u, u < 5 → (τ.1 130 u).toInt = W u) → (∀ j, j < k → τ.1 129 j = nI (fac j) ∧ fac j < 2 * q) → (∀ l, fws σ q d (fun u => W u - fsum σ fac u k) = some l → ∃ τ', m_fills_117 m (nI k) (nI len) τ = some (1, τ') ∧ FR [129] τ τ' ∧ (∀ i, i < k → τ'.1 129 i = τ.1 129 i) ∧ ∀ i, i < d → τ'.1 129 (k + i) = nI (l.getD i 0)) ∧ (fws σ q d (fun u => W u - fsum σ fac u k) = none → ∃ τ', m_fills_117 m (nI k) (nI len) τ = some (0, τ') ∧ FR [129] τ τ' ∧ ∀ i, i < k → τ'.1 129 i = τ.1 129 i)
  | 0, m, k, fac, τ, hk, hm, h8, hW, hf => by
    obtain ⟨m, rfl⟩ : ∃ j, m = j + 1 := ⟨m - 1, by omega⟩
    have hkl : k = len := by omega
    subst hkl
    have st : m_fills_117 (m + 1) (nI k) (nI k) τ = some (if zr5 (fun u => W u - fsum σ fac u k) = true then 1 else 0, τ) := by
      show m_fills_117_H (m_fills_117 m) (nI k) (nI k) τ = _
      unfold m_fills_117_H
      rw [if_pos rfl, mwan hq hM h8 hlen hf hW, bd_s]
      split <;> rfl
    rw [st]
    unfold fws
    constructor
    · intro l hl
      by_cases g : zr5 (fun u => W u - fsum σ fac u k) = true
      · rw [if_pos g]; exact ⟨τ, rfl, FR_refl _ _, fun _ _ => rfl, fun i hi => absurd hi (Nat.not_lt_zero _)⟩
      · rw [if_neg g] at hl; cases hl
    · intro hl
      by_cases g : zr5 (fun u => W u - fsum σ fac u k) = true
      · rw [if_pos g] at hl; cases hl
      · rw [if_neg g]; exact ⟨τ, rfl, FR_refl _ _, fun _ _ => rfl⟩
  | d + 1, m, k, fac, τ, hk, hm, h8, hW, hf => by
    obtain ⟨m, rfl⟩ : ∃ j, m = j + 1 := ⟨m - 1, by omega⟩
    have st : m_fills_117 (m + 1) (nI k) (nI len) τ = m_fills_117_L13 (m_fills_117 m) fu (nI k) (nI len) (nI 0) τ := by
      show m_fills_117_H (m_fills_117 m) (nI k) (nI len) τ = _
      unfold m_fills_117_H
      rw [if_neg (fun w => by have := (nI_eq (by omega) (by omega)).mp w; omega)]; rfl
    rw [st]
    have h2q : (2 : Int32) * nI q = nI (2 * q) := by rw [show (2 : Int32) = nI 2 from rfl, nI_mul]
    have h0 : τ.1 118 0 = nI q := by rw [h8]; exact hM.2.1
    have key : ∀ e mm f (ρ : Sg), f + e = 2 * q → e < mm → FR [129] τ ρ → (∀ i, i < k → ρ.1 129 i = τ.1 129 i) → (∀ l, fsm (fun f => fws σ q d (fun u => (W u - fsum σ fac u k) - fvz σ f u)) e f = some l → ∃ τ', m_fills_117_L13 (m_fills_117 m) mm (nI k) (nI len) (nI f) ρ = some (1, τ') ∧ FR [129] τ τ' ∧ (∀ i, i < k → τ'.1 129 i = τ.1 129 i) ∧ ∀ i, i < d + 1 → τ'.1 129 (k + i) = nI (l.getD i 0)) ∧ (fsm (fun f => fws σ q d (fun u => (W u - fsum σ fac u k) - fvz σ f u)) e f = none → ∃ τ', m_fills_117_L13 (m_fills_117 m) mm (nI k) (nI len) (nI f) ρ = some (0, τ') ∧ FR [129] τ τ' ∧ ∀ i, i < k → τ'.1 129 i = τ.1 129 i) := by
      intro e
      induction e with
      | zero =>
        intro mm f ρ hf' hmm fr pr
        obtain ⟨mm, rfl⟩ : ∃ j, mm = j + 1 := ⟨mm - 1, by omega⟩
        refine ⟨fun l hl => (by cases hl), fun _ => ⟨ρ, ?_, fr, pr⟩⟩
        show m_fills_117_H13 (m_fills_117 m) (m_fills_117_L13 (m_fills_117 m) mm) _ _ (nI f) ρ = _
        unfold m_fills_117_H13
        rw [FR_i fr (by decide), h0, h2q, if_pos (nI_le (by omega) (by omega))]
      | succ e ih =>
        intro mm f ρ hf' hmm fr pr
        obtain ⟨mm, rfl⟩ : ∃ j, mm = j + 1 := ⟨mm - 1, by omega⟩
        have hf2 : f < 2 * q := by omega
        have hfs : ∀ u, fsum σ (fun j => if j = k then f else fac j) u (k + 1) = fsum σ fac u k + fvz σ f u := by
          intro u
          show fsum σ (fun j => if j = k then f else fac j) u k + fvz σ (if k = k then f else fac k) u = _
          rw [if_pos rfl, fsum_cg (fac := fac) k (fun j hj => if_neg (by omega))]
        have hfe : (fun u => W u - fsum σ (fun j => if j = k then f else fac j) u (k + 1)) = (fun u => (W u - fsum σ fac u k) - fvz σ f u) := by
          funext u; rw [hfs]; omega
        have hrec := mfl (q := q) (len := len) (σ := σ) (W := W) hq hM hlen d m (k + 1) (fun j => if j = k then f else fac j) (si ρ 129 k (nI f)) (by omega) (by omega) (by rw [si_c (by omega), FR_i fr (by decide)]; exact h8) (fun u hu => by rw [si_c (by omega), FR_i fr (by decide)]; exact hW u hu) (fun j hj => by
          by_cases e : j = k
          · rw [e, si_e, if_pos rfl]; exact ⟨rfl, hf2⟩
          · rw [si_j e, if_neg e, pr j (by omega)]; exact hf j (by omega))
        rw [hfe] at hrec
        have st2 : m_fills_117_L13 (m_fills_117 m) (mm + 1) (nI k) (nI len) (nI f) ρ = bd (m_fills_117 m (nI (k + 1)) (nI len) (si ρ 129 k (nI f))) fun r2 σ2 => if r2 = 0 then m_fills_117_L13 (m_fills_117 m) mm (nI k) (nI len) (nI (f + 1)) σ2 else some (1, σ2) := by
          show m_fills_117_H13 (m_fills_117 m) (m_fills_117_L13 (m_fills_117 m) mm) _ _ (nI f) ρ = _
          unfold m_fills_117_H13
          rw [FR_i fr (by decide), h0, h2q, if_neg (nI_ge hf2 (by omega)), inB_t (by omega) (by omega), gd_t, cl_n (by omega), nI_1, nI_1]
        rw [st2]
        cases hg : fws σ q d (fun u => (W u - fsum σ fac u k) - fvz σ f u) with
        | none =>
          obtain ⟨ρ', w1, w2, w3⟩ := hrec.2 hg
          rw [w1, bd_s, if_pos rfl, fsm_f (g := fun f => fws σ q d (fun u => (W u - fsum σ fac u k) - fvz σ f u)) hg]
          exact ih mm (f + 1) ρ' (by omega) (by omega) (FR_trans (FR_si fr (by decide)) w2) (fun i hi => by rw [w3 i (by omega), si_j (by omega)]; exact pr i hi)
        | some l' =>
          obtain ⟨ρ', w1, w2, w3, w4⟩ := hrec.1 l' hg
          rw [w1, bd_s, if_neg (by decide), fsm_t (g := fun f => fws σ q d (fun u => (W u - fsum σ fac u k) - fvz σ f u)) hg]
          refine ⟨fun l hl => ?_, fun hl => (by cases hl)⟩
          obtain rfl : f :: l' = l := by simpa using hl
          refine ⟨ρ', rfl, FR_trans (FR_si fr (by decide)) w2, fun i hi => by rw [w3 i (by omega), si_j (by omega)]; exact pr i hi, ?_⟩
          intro i hi
          cases i with
          | zero => rw [Nat.add_zero, w3 k (by omega), si_e]; rfl
          | succ i =>
            rw [show k + (i + 1) = k + 1 + i by omega, w4 i (by omega)]; rfl
    exact key (2 * q) fu 0 τ (by omega) (fu_lt (by omega)) (FR_refl _ _) (fun _ _ => rfl)
