/-! ===== PURE: FIRM ones alone have no PURE PRODUCT; sizes one by one ===== -/
def lsu (σ : Sg) (u : Nat) : List Int → Nat → Int
  | [], _ => 0
  | x :: l, k => x * dZ σ k u + lsu σ u l (k + 1)
def lab : List Int → Nat
  | [] => 0
  | x :: l => x.natAbs + lab l
theorem lsl_sound {g : Int → Option (List Int)} {P : Int → List Int → Prop} : ∀ (e : Nat) (x : Int) (l : List Int), (∀ y l', x ≤ y → y < x + (e : Int) → g y = some l' → P y l') → lsl g e x = some l → ∃ y l', l = y :: l' ∧ P y l'
  | 0, x, l, _, h => by cases h
  | e + 1, x, l, hP, h => by
    cases hg : g x with
    | some l' =>
      rw [lsl_t hg] at h
      obtain rfl : x :: l' = l := by simpa using h
      exact ⟨x, l', rfl, hP x l' (by omega) (by omega) hg⟩
    | none =>
      rw [lsl_f hg] at h
      exact lsl_sound e (x + 1) l (fun y l' h1 h2 => hP y l' (by omega) (by omega)) h
theorem lsr_sound {σ : Sg} {q : Nat} : ∀ d left v l, d ≤ q → lsr σ q d left v = some l → (∀ u, u < 5 → v u + lsu σ u l (q - d) = 0) ∧ lab l = left
  | 0, left, v, l, hd, h => by
    unfold lsr at h
    by_cases g : left = 0 ∧ zr5 v = true
    · rw [if_pos g] at h
      obtain rfl : [] = l := by simpa using h
      refine ⟨fun u hu => ?_, g.1.symm⟩
      show v u + 0 = 0
      rw [zr5_iff.mp g.2 u hu]; rfl
    · rw [if_neg g] at h; cases h
  | d + 1, left, v, l, hd, h => by
    obtain ⟨y, l', rfl, h1, h2, h3⟩ := lsl_sound (P := fun y l' => y.natAbs ≤ left ∧ (∀ u, u < 5 → (v u + y * dZ σ (q - (d + 1)) u) + lsu σ u l' (q - d) = 0) ∧ lab l' = left - y.natAbs) (2 * left + 1) (-(left : Int)) l (fun y l' g1 g2 g3 => ⟨by omega, lsr_sound d (left - y.natAbs) (fun u => v u + y * dZ σ (q - (d + 1)) u) l' (by omega) g3⟩) h
    refine ⟨fun u hu => ?_, ?_⟩
    · have := h2 u hu
      show v u + (y * dZ σ (q - (d + 1)) u + lsu σ u l' (q - (d + 1) + 1)) = 0
      rw [show q - (d + 1) + 1 = q - d by omega]; omega
    · show y.natAbs + lab l' = left
      omega
theorem lsu_sm {σ : Sg} {u : Nat} : ∀ (l : List Int) (k : Nat), lsu σ u l k = sm l.length (fun i => l.getD i 0 * dZ σ (k + i) u)
  | [], k => rfl
  | x :: l, k => by
    have ih := lsu_sm (σ := σ) (u := u) l (k + 1)
    have hs : ∀ n (f : Nat → Int), sm (n + 1) f = f 0 + sm n (fun i => f (i + 1)) := by
      intro n
      induction n with
      | zero => intro f; show sm 0 f + f 0 = f 0 + sm 0 _; show (0 : Int) + f 0 = f 0 + 0; omega
      | succ n ih2 =>
        intro f
        show sm (n + 1) f + f (n + 1) = f 0 + (sm n (fun i => f (i + 1)) + f (n + 1))
        rw [ih2 f]; omega
    show x * dZ σ k u + lsu σ u l (k + 1) = sm (l.length + 1) (fun i => (x :: l).getD i 0 * dZ σ (k + i) u)
    rw [hs, ih]
    congr 1
    exact sm_cg (fun i _ => by
      show l.getD i 0 * dZ σ (k + 1 + i) u = l.getD i 0 * dZ σ (k + (i + 1)) u
      rw [show k + 1 + i = k + (i + 1) by omega])
/-- a combination of columns of a matrix with a determinant is 0 only if all is 0 -/
theorem indep {N : Nat → Nat → Int} {f : Nat → Int} (hN : DT N ≠ 0) {q : Nat} (hq : q ≤ 5) (h : ∀ r, r < 5 → sm q (fun c => f c * N r c) = 0) : ∀ j, j < q → f j = 0 := by
  intro j hj
  have key : ∀ k, k ≤ 5 → DT (rpl N j (fun r => sm k (fun c => f c * N r c))) = if j < k then f j * DT N else 0 := by
    intro k
    induction k with
    | zero =>
      intro _
      rw [if_neg (Nat.not_lt_zero _)]
      have := DT_l (k := j) (by omega) N 0 0 (fun _ => 0) (fun _ => 0)
      simp at this
      exact this
    | succ k ih =>
      intro hk
      have e := DT_l (k := j) (by omega) N 1 (f k) (fun r => sm k (fun c => f c * N r c)) (fun r => N r k)
      have e2 : (fun r => 1 * sm k (fun c => f c * N r c) + f k * N r k) = (fun r => sm (k + 1) (fun c => f c * N r c)) := by
        funext r
        show 1 * sm k (fun c => f c * N r c) + f k * N r k = sm k (fun c => f c * N r c) + f k * N r k
        omega
      rw [e2, ih (by omega)] at e
      rw [e]
      by_cases g : k = j
      · subst g
        rw [rpl_id, if_neg (Nat.lt_irrefl _), if_pos (Nat.lt_succ_self _)]; omega
      · rw [DT_dup g (by omega) (by omega)]
        by_cases g2 : j < k
        · rw [if_pos g2, if_pos (by omega)]; omega
        · rw [if_neg g2, if_neg (by omega)]; omega
  have h1 := key q hq
  rw [if_pos hj] at h1
  have h0 : DT (rpl N j (fun r => sm q (fun c => f c * N r c))) = 0 := by
    have e := DT_l (k := j) (by omega) N 0 0 (fun _ => 0) (fun _ => 0)
    simp at e
    rw [← e]
    exact DT_x (by omega) (fun r hr => h r hr)
  rw [h0] at h1
  rcases Int.mul_eq_zero.mp h1.symm with w | w
  · exact w
  · exact absurd w hN
theorem lab_0 : ∀ l : List Int, (∀ i, i < l.length → l.getD i 0 = 0) → lab l = 0
  | [], _ => rfl
  | x :: l, h => by
    have h0 : x = 0 := h 0 (by simp)
    have h1 := lab_0 l (fun i hi => h (i + 1) (by simp; omega))
    show x.natAbs + lab l = 0
    rw [h0, h1]; rfl
theorem firm_no {n q ver : Nat} {σ : Sg} (h : VV n q ver σ) (hL : LZ σ q = 0) {left : Nat} (hl : 1 ≤ left) : lsr σ q q left (fun _ => 0) = none := by
  cases hs : lsr σ q q left (fun _ => 0) with
  | none => rfl
  | some l =>
    exfalso
    obtain ⟨s1, s2⟩ := lsr_sound q left (fun _ => 0) l (Nat.le_refl _) hs
    have hlen := lsr_len σ q q left _ l hs
    have hA := vA h
    obtain ⟨hE, z1, z2, z3, z4⟩ := ez_ok hA (2 ^ q - 1)
    obtain ⟨E1, E2, E3, E4, E5⟩ := hE
    obtain ⟨J1, J2, N, sg, hJ⟩ := zts_J (mZ σ) (2 ^ q - 1) q
    obtain ⟨c1, c2, c3⟩ := ets_cnt (mA σ) (2 ^ q - 1) q
    have hP : ∀ x, x < q → (ets (mA σ) (2 ^ q - 1) q).2.2.1.testBit x = true := by
      intro x hx
      have := LZ_bit (σ := σ) (q := q) (x := x)
      rw [hL] at this
      simp [hx] at this
      exact this
    have hcnt : ∀ x, x ≤ q → cntS (ets (mA σ) (2 ^ q - 1) q).2.2.1 x = x := by
      intro x
      induction x with
      | zero => intro _; rfl
      | succ x ih => intro hx; rw [cnt_t (hP x (by omega)), ih (by omega)]
    have hq5 : q ≤ 5 := by
      have := ets_rk (mA σ) (2 ^ q - 1) q
      rw [c1, hcnt q (Nat.le_refl _)] at this; exact this
    have hcol : ∀ c r, c < q → N r c = mZ σ r c := by
      intro c r hc
      have hb : (zts (mZ σ) (2 ^ q - 1) q).2.2.1.testBit c = true := by rw [← E3]; exact hP c hc
      have hr : (zts (mZ σ) (2 ^ q - 1) q).2.2.2.1 c = c := by rw [← E4, c2 c hc (hP c hc), hcnt c (by omega)]
      have := (hJ.2.2.2.2.2.2.2 c hb).2 r
      rw [hr] at this; exact this
    have hz := indep (f := fun i => l.getD i 0) hJ.2.1 hq5 (fun r hr => by
      have e := s1 r hr
      rw [show q - q = 0 by omega, lsu_sm, hlen] at e
      have e2 : sm q (fun c => l.getD c 0 * N r c) = sm q (fun i => l.getD i 0 * dZ σ (0 + i) r) := sm_cg (fun c hc => by
        rw [hcol c r hc, Nat.zero_add]; rfl)
      rw [e2]; omega)
    have := lab_0 l (fun i hi => hz i (by omega))
    omega
theorem lsT_t {σ : Sg} {q e n : Nat} {l : List Int} (h : lsr σ q q n (fun _ => 0) = some l) : lsT σ q (e + 1) n = some (n, l) := by unfold lsT; rw [h]
theorem lsT_f {σ : Sg} {q e n : Nat} (h : lsr σ q q n (fun _ => 0) = none) : lsT σ q (e + 1) n = lsT σ q e (n + 1) := by
  show (match lsr σ q q n (fun _ => 0) with | some l => some (n, l) | none => lsT σ q e (n + 1)) = _
  rw [h]
/-- the reference's answers -/
def lsv (σ : Sg) (q : Nat) (v : Int32) : Int32 := match lsT σ q 6 1 with
  | none => 0
  | some p => if v = -1 then nI p.1 else xI (p.2.getD v.toInt.toNat 0)
theorem lsr_small {σ : Sg} {q : Nat} : ∀ d left v l, lsr σ q d left v = some l → ∀ i, (l.getD i 0).natAbs ≤ left
  | 0, left, v, l, h, i => by
    unfold lsr at h
    split at h
    · obtain rfl : [] = l := by simpa using h
      simp
    · cases h
  | d + 1, left, v, l, h, i => by
    obtain ⟨y, l', rfl, h1, h2⟩ := lsl_sound (P := fun y l' => y.natAbs ≤ left ∧ ∀ i, (l'.getD i 0).natAbs ≤ left - y.natAbs) (2 * left + 1) (-(left : Int)) l (fun y l' g1 g2 g3 => ⟨by omega, lsr_small d (left - y.natAbs) (fun u => v u + y * dZ σ (q - (d + 1)) u) l' g3⟩) h
    cases i with
    | zero => exact h1
    | succ i =>
      have := h2 i
      show (l'.getD i 0).natAbs ≤ left
      omega
theorem mleast {n q ver : Nat} {v : Int32} {σ τ0 : Sg} (h : VV n q ver σ) (h80 : τ0.1 118 = σ.1 118) (hv : v = -1 ∨ ∃ k, k < q ∧ v = nI k) : ∃ τ, m_least_117_b19 v τ0 = some (lsv σ q v, τ) ∧ FR [128] τ0 τ := by
  have hq := vq h
  unfold m_least_117_b19 lsv
  have key : ∀ e m len ρ, len + e = 7 → 1 ≤ len → e < m → FR [128] τ0 ρ → ∃ τ, m_least_117_L21 m v (nI len) ρ = some ((match lsT σ q e len with | none => 0 | some p => if v = -1 then nI p.1 else xI (p.2.getD v.toInt.toNat 0)), τ) ∧ FR [128] τ0 τ := by
    intro e
    induction e with
    | zero =>
      intro m len ρ hl h1 hm fr
      obtain ⟨m, rfl⟩ : ∃ j, m = j + 1 := ⟨m - 1, by omega⟩
      refine ⟨ρ, ?_, fr⟩
      show m_least_117_H21 (m_least_117_L21 m) v (nI len) ρ = some ((0 : Int32), ρ)
      unfold m_least_117_H21
      rw [if_pos (show (6 : Int32) < nI len from (gt_l (b := 6) (by omega)).mpr (by rw [nI_toInt (by omega)]; omega))]
    | succ e ih =>
      intro m len ρ hl h1 hm fr
      obtain ⟨m, rfl⟩ : ∃ j, m = j + 1 := ⟨m - 1, by omega⟩
      have hr := mls h q 12 len ρ (Nat.le_refl _) (by omega) (by omega) ((FR_i fr (by decide)).trans h80) (fun j hj => by omega)
      rw [show q - q = 0 by omega] at hr
      have st : m_least_117_L21 (m + 1) v (nI len) ρ = bd (m_isLeast_117 12 (nI 0) (nI len) ρ) fun r1 σ1 => if r1 = 0 then m_least_117_L21 m v (nI (len + 1)) σ1 else if 0 ≤ v then gd (inB v 8) (some (σ1.1 128 v.toNatClampNeg, σ1)) else some (nI len, σ1) := by
        show m_least_117_H21 (m_least_117_L21 m) v (nI len) ρ = _
        unfold m_least_117_H21 m_least_117_b50
        rw [if_neg (show ¬ (6 : Int32) < nI len from fun w => by have := (gt_l (b := 6) (by omega)).mp w; rw [nI_toInt (by omega)] at this; omega), nI_1]; rfl
      rw [st]
      cases hg : lsr σ q q len (fun _ => 0) with
      | none =>
        obtain ⟨ρ', y1, y2, _⟩ := hr.2 hg
        rw [y1, bd_s, if_pos rfl, lsT_f hg]
        exact ih m (len + 1) ρ' (by omega) (by omega) (by omega) (FR_trans fr y2)
      | some l =>
        obtain ⟨ρ', y1, y2, _, y4⟩ := hr.1 l hg
        rw [y1, bd_s, if_neg (by decide), lsT_t hg]
        refine ⟨ρ', ?_, FR_trans fr y2⟩
        show _ = some (if v = -1 then nI len else xI (l.getD v.toInt.toNat 0), ρ')
        rcases hv with rfl | ⟨k, hk, rfl⟩
        · rw [if_neg (by decide), if_pos rfl]
        · have hne : ¬ nI k = -1 := fun w => by
            have := (eq_l (a := -1) (b := k) (by omega)).mp w.symm
            rw [show (-1 : Int32).toInt = -1 by decide] at this; omega
          rw [if_pos (nI_pos' (by omega)), if_neg hne, inB_t (by omega) (by omega), gd_t, cl_n (by omega)]
          have := y4 k hk
          rw [Nat.zero_add] at this
          have hsm := lsr_small q len _ l hg k
          have hkt : (nI k).toInt.toNat = k := by rw [nI_toInt (by omega)]; omega
          rw [hkt]
          congr 1
          congr 1
          exact Int32.toInt_inj.mp (by rw [this, xI_t (by omega)])
  exact key 6 fu 1 τ0 (by omega) (by omega) (by decide) (FR_refl _ _)
/-- the class's -/
theorem jfill81 (σ : Sg) : ∃ σ', j_fillAII_81 0 σ = some ((), σ') ∧ FR [81] σ σ' ∧ ∀ p, p < 8 → σ'.1 81 p = 0 := by
  unfold j_fillAII_81
  refine loopE (L := fun k i s => j_fillAII_81_L5 k 0 (nI i) 8 s) (N := 8) (P := fun i τ => FR [81] σ τ ∧ ∀ p, p < i → τ.1 81 p = 0) (Q := fun r => ∃ σ', r = some ((), σ') ∧ FR [81] σ σ' ∧ ∀ p, p < 8 → σ'.1 81 p = 0) ?_ ?_ (by decide) ⟨FR_refl _ _, fun p h => absurd h (Nat.not_lt_zero _)⟩
  · rintro k i τ hi ⟨f, g⟩
    refine ⟨si τ 81 i 0, ?_, FR_si f (by decide), ?_⟩
    · show j_fillAII_81_H5 (j_fillAII_81_L5 k) 0 (nI i) 8 τ = _
      unfold j_fillAII_81_H5
      rw [if_neg (show ¬ (8 : Int32) ≤ nI i from nI_ge (b := 8) hi (by decide)), inB_t hi (by omega), gd_t, cl_n (by omega), nI_1]
    · intro p hp
      by_cases e : p = i
      · subst e; rw [si_e]
      · rw [si_j e]; exact g p (by omega)
  · rintro k τ ⟨f, g⟩
    refine ⟨τ, ?_, f, g⟩
    show j_fillAII_81_H5 (j_fillAII_81_L5 k) 0 (nI 8) 8 τ = _
    unfold j_fillAII_81_H5
    rw [if_pos (show (8 : Int32) ≤ nI 8 by decide)]
theorem jfind {n q ver : Nat} {σ : Sg} (h : VV n q ver σ) {τ0 : Sg} (hf : FR [80, 81] σ τ0) (h2 : τ0.1 80 2 = 0) (hz : ∀ j, j < q → τ0.1 81 j = 0) : ∃ τ, j_findLeast_80_L41 fu 1 τ0 = some ((), τ) ∧ FR [80, 81] σ τ ∧ (∀ j, j ≠ 2 → τ.1 80 j = τ0.1 80 j) ∧ LSP σ q τ := by
  have hq := vq h
  have hLlt := LZ_lt σ q
  have h256 := pw_256 hq
  have fr_c : ∀ (ρ : Sg), FR [80, 81] σ ρ → V70 q ρ ∧ ρ.1 118 = σ.1 118 := fun ρ fr => ⟨V70_fr (v7 h) (fun c hc => fr c (by
    rcases hc with hc | hc
    · simp; omega
    · subst hc; decide)), FR_i fr (by decide)⟩
  -- once found, or with no loose one, it stops
  have done : ∀ m x ρ, FR [80, 81] σ ρ → (¬ ρ.1 80 2 = 0 ∨ LZ σ q = 0) → j_findLeast_80_L41 (m + 1) x ρ = some ((), ρ) := by
    intro m x ρ fr hd
    obtain ⟨hv, h8⟩ := fr_c ρ fr
    show j_findLeast_80_H41 (j_findLeast_80_L41 m) x ρ = _
    unfold j_findLeast_80_H41 j_findLeast_80_b102
    by_cases g : 6 < x
    · rw [if_pos g]
    · rw [if_neg g]
      by_cases g2 : ρ.1 80 2 = 0
      · rw [if_pos g2, jloose hv.2.2 hq, bd_s, (same118 h8).2.2.2.1]
        have hL : LZ σ q = 0 := hd.resolve_left (fun w => w g2)
        rw [if_pos (show nI (LZ σ q) = 0 by rw [hL]; rfl)]
      · rw [if_neg g2]
  have key : ∀ e m len ρ, len + e = 7 → 1 ≤ len → e < m → FR [80, 81] σ ρ → ρ.1 80 2 = 0 → (∀ j, j < q → ρ.1 81 j = 0) → ∃ τ, j_findLeast_80_L41 m (nI len) ρ = some ((), τ) ∧ FR [80, 81] σ τ ∧ (∀ j, j ≠ 2 → τ.1 80 j = ρ.1 80 j) ∧ (match lsT σ q e len with | none => τ.1 80 2 = 0 ∧ ∀ j, j < q → τ.1 81 j = 0 | some p => τ.1 80 2 = nI p.1 ∧ 1 ≤ p.1 ∧ p.1 ≤ 6 ∧ ∀ j, j < q → (τ.1 81 j).toInt = p.2.getD j 0) := by
    intro e
    induction e with
    | zero =>
      intro m len ρ hl h1 hm fr p2 pz
      obtain ⟨m, rfl⟩ : ∃ j, m = j + 1 := ⟨m - 1, by omega⟩
      refine ⟨ρ, ?_, fr, fun _ _ => rfl, p2, pz⟩
      show j_findLeast_80_H41 (j_findLeast_80_L41 m) (nI len) ρ = _
      unfold j_findLeast_80_H41 j_findLeast_80_b102
      rw [if_pos (show (6 : Int32) < nI len from (gt_l (b := 6) (by omega)).mpr (by rw [nI_toInt (by omega)]; omega))]
    | succ e ih =>
      intro m len ρ hl h1 hm fr p2 pz
      obtain ⟨m, rfl⟩ : ∃ j, m = j + 1 := ⟨m - 1, by omega⟩
      obtain ⟨hv, h8⟩ := fr_c ρ fr
      by_cases hL : LZ σ q = 0
      · have hno := firm_no h hL (left := len) h1
        have hall : ∀ e' l', 1 ≤ l' → lsT σ q e' l' = none := by
          intro e'
          induction e' with
          | zero => intro l' _; rfl
          | succ e' ih2 => intro l' hl'; rw [lsT_f (firm_no h hL hl')]; exact ih2 (l' + 1) (by omega)
        rw [done m (nI len) ρ fr (Or.inr hL), hall (e + 1) len h1]
        exact ⟨ρ, rfl, fr, fun _ _ => rfl, p2, pz⟩
      · have hr := jls hv q 12 len 0 (fun _ => 0) ρ (Nat.le_refl _) (by omega) (by omega) rfl (by decide) (fun u _ => by show (0 : Int).natAbs ≤ _; omega)
        rw [show q - q = 0 by omega] at hr
        have hlr : lsr ρ q q len (fun _ => 0) = lsr σ q q len (fun _ => 0) := by
          have hdz : dZ ρ = dZ σ := by funext k u; unfold dZ; rw [dm_fr h8]
          have : ∀ d left v, lsr ρ q d left v = lsr σ q d left v := by
            intro d
            induction d with
            | zero => intro left v; rfl
            | succ d ih2 =>
              intro left v
              unfold lsr
              have : (fun x : Int => lsr ρ q d (left - x.natAbs) (fun u => v u + x * dZ ρ (q - (d + 1)) u)) = (fun x => lsr σ q d (left - x.natAbs) (fun u => v u + x * dZ σ (q - (d + 1)) u)) := by
                funext x; rw [ih2, hdz]
              rw [this]
          exact this q len _
        rw [hlr] at hr
        have st : j_findLeast_80_L41 (m + 1) (nI len) ρ = bd (j_hasPure_61_81 12 (nI q) (nI 0) (nI len) 0 ρ) fun r2 σ2 => if r2 = 0 then j_findLeast_80_L41 m (nI (len + 1)) σ2 else j_findLeast_80_L41 m (nI (len + 1)) (si σ2 80 2 (nI len)) := by
          show j_findLeast_80_H41 (j_findLeast_80_L41 m) (nI len) ρ = _
          unfold j_findLeast_80_H41 j_findLeast_80_b96
          rw [if_neg (show ¬ (6 : Int32) < nI len from fun w => by have := (gt_l (b := 6) (by omega)).mp w; rw [nI_toInt (by omega)] at this; omega), if_pos p2, jloose hv.2.2 hq, bd_s, (same118 h8).2.2.2.1, if_neg (show ¬ nI (LZ σ q) = 0 from fun w => hL ((nI_eq (b := 0) (by omega) (by omega)).mp w)), hv.2.2.1, nI_1]; rfl
        rw [st]
        cases hg : lsr σ q q len (fun _ => 0) with
        | none =>
          obtain ⟨ρ', y1, y2, _, y4⟩ := hr.2 hg
          have e80 : ρ'.1 80 = ρ.1 80 := FR_i y2 (by decide)
          rw [y1, bd_s, if_pos rfl, lsT_f hg]
          obtain ⟨τ, z1, z2, z3, z4⟩ := ih m (len + 1) ρ' (by omega) (by omega) (by omega) (FR_trans fr (FR_mono (by decide) y2)) (by rw [e80]; exact p2) (fun j hj => y4 j (by omega) hj)
          exact ⟨τ, z1, z2, fun j hj => by rw [z3 j hj, e80], z4⟩
        | some l =>
          obtain ⟨ρ', y1, y2, _, y4⟩ := hr.1 l hg
          have e80 : ρ'.1 80 = ρ.1 80 := FR_i y2 (by decide)
          have f' : FR [80, 81] σ (si ρ' 80 2 (nI len)) := FR_si (FR_trans fr (FR_mono (by decide) y2)) (by decide)
          obtain ⟨m', rfl⟩ : ∃ j, m = j + 1 := ⟨m - 1, by omega⟩
          rw [y1, bd_s, if_neg (by decide), lsT_t hg, done m' (nI (len + 1)) (si ρ' 80 2 (nI len)) f' (Or.inl (by rw [si_e]; exact (show ¬ nI len = 0 from fun w => by have := (nI_eq (b := 0) (by omega) (by omega)).mp w; omega)))]
          refine ⟨_, rfl, f', fun j hj => by rw [si_j hj, e80], by rw [si_e], h1, by show len ≤ 6; omega, fun j hj => ?_⟩
          rw [si_c (by omega)]
          have := y4 j hj
          rw [Nat.zero_add] at this; exact this
  obtain ⟨τ, z1, z2, z3, z4⟩ := key 6 fu 1 τ0 (by omega) (by omega) (by decide) hf h2 hz
  exact ⟨τ, z1, z2, z3, z4⟩
