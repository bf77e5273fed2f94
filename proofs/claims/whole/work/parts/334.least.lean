/-! ===== PURE: the least PURE PRODUCT ===== -/
def xI (x : Int) : Int32 := Int32.ofInt x
theorem xI_t {x : Int} (h : x.natAbs ≤ 1000) : (xI x).toInt = x := by
  unfold xI
  rw [Int32.toInt_ofInt]; exact bm32 (by omega) (by omega)
theorem xI_1 {x : Int} (h : x.natAbs ≤ 900) : xI x + 1 = xI (x + 1) := by
  apply Int32.toInt_inj.mp
  rw [Int32.toInt_add, xI_t (by omega), xI_t (by omega), show (1 : Int32).toInt = 1 by decide]
  exact bm32 (by omega) (by omega)
theorem xI_n {k : Nat} (h : k ≤ 1000) : xI (k : Int) = nI k := Int32.toInt_inj.mp (by rw [xI_t (by omega), nI_toInt (by omega)])
theorem neg_n {k : Nat} (h : k ≤ 900) : -(nI k) = xI (-(k : Int)) := by
  apply Int32.toInt_inj.mp
  rw [Int32.toInt_neg, nI_toInt (by omega), xI_t (by omega)]
  exact bm32 (by omega) (by omega)
theorem lsl_t {g : Int → Option (List Int)} {e : Nat} {x : Int} {l : List Int} (h : g x = some l) : lsl g (e + 1) x = some (x :: l) := by unfold lsl; rw [h]
theorem lsl_f {g : Int → Option (List Int)} {e : Nat} {x : Int} (h : g x = none) : lsl g (e + 1) x = lsl g e (x + 1) := by
  show (match g x with | some l => some (x :: l) | none => lsl g e (x + 1)) = _
  rw [h]
theorem lsl_skip {g : Int → Option (List Int)} : ∀ (j e : Nat) (x : Int), (∀ y, x ≤ y → y < x + (j : Int) → g y = none) → lsl g (j + e) x = lsl g e (x + (j : Int))
  | 0, e, x, _ => by rw [Nat.zero_add]; congr 1; omega
  | j + 1, e, x, h => by
    rw [show j + 1 + e = (j + e) + 1 by omega, lsl_f (h x (by omega) (by omega)), lsl_skip j e (x + 1) (fun y h1 h2 => h y (by omega) (by omega))]
    congr 1; omega
theorem lsl_len {g : Int → Option (List Int)} {d : Nat} (hg : ∀ x l, g x = some l → l.length = d) : ∀ (e : Nat) (x : Int) (l : List Int), lsl g e x = some l → l.length = d + 1
  | 0, x, l, h => by cases h
  | e + 1, x, l, h => by
    cases hp : g x with
    | none => rw [lsl_f hp] at h; exact lsl_len hg e (x + 1) l h
    | some l' =>
      rw [lsl_t hp] at h
      obtain rfl : x :: l' = l := by simpa using h
      simp [hg x l' hp]
theorem lsr_len (σ : Sg) (q : Nat) : ∀ d left v l, lsr σ q d left v = some l → l.length = d
  | 0, left, v, l, h => by
    unfold lsr at h
    split at h
    · obtain rfl : [] = l := by simpa using h
      rfl
    · cases h
  | d + 1, left, v, l, h => lsl_len (fun x l' h' => lsr_len σ q d _ _ l' h') _ _ l h
/-- the reference's search -/
theorem mls {n q ver : Nat} {σ : Sg} (h : VV n q ver σ) : ∀ d m left (τ : Sg), d ≤ q → d < m → left ≤ 6 → τ.1 118 = σ.1 118 → (∀ j, j < q - d → (τ.1 128 j).toInt.natAbs ≤ 6) → (∀ l, lsr σ q d left (fun u => sdz (τ.1 128) σ u (q - d)) = some l → ∃ τ', m_isLeast_117 m (nI (q - d)) (nI left) τ = some (1, τ') ∧ FR [128] τ τ' ∧ (∀ j, j < q - d → τ'.1 128 j = τ.1 128 j) ∧ ∀ i, i < d → (τ'.1 128 (q - d + i)).toInt = l.getD i 0) ∧ (lsr σ q d left (fun u => sdz (τ.1 128) σ u (q - d)) = none → ∃ τ', m_isLeast_117 m (nI (q - d)) (nI left) τ = some (0, τ') ∧ FR [128] τ τ' ∧ ∀ j, j < q - d → τ'.1 128 j = τ.1 128 j)
  | 0, m, left, τ, hd, hm, hl, h8, ht => by
    have hq := vq h
    obtain ⟨m, rfl⟩ : ∃ j, m = j + 1 := ⟨m - 1, by omega⟩
    have hnok : ∀ k, k < q → nok (τ.1 128 k) := fun k hk => by
      have := ht k (by omega)
      refine ⟨Int32.le_iff_toInt_le.mpr ?_, Int32.le_iff_toInt_le.mpr ?_⟩
      · rw [show (-99 : Int32).toInt = -99 by decide]; omega
      · rw [show (99 : Int32).toInt = 99 by decide]; omega
    have hpu : pu (τ.1 128) τ q 5 = if zr5 (fun u => sdz (τ.1 128) σ u q) = true then 1 else 0 := by
      rw [pu_cg (f := τ.1 128) (σ := σ) (dm_fr h8) (fun _ _ => rfl), pu_z hq (vMR h) hnok]
    have st : m_isLeast_117 (m + 1) (nI (q - 0)) (nI left) τ = some (if left = 0 ∧ zr5 (fun u => sdz (τ.1 128) σ u (q - 0)) = true then 1 else 0, τ) := by
      show m_isLeast_117_H (m_isLeast_117 m) (nI (q - 0)) (nI left) τ = _
      unfold m_isLeast_117_H m_isLeast_117_b25 m_isLeast_117_b26
      rw [h8, v0 h, if_pos (show nI (q - 0) = nI q from rfl)]
      by_cases g : left = 0
      · rw [if_pos (show nI left = 0 by rw [g]; rfl), mtp hq (by rw [h8]; exact v0 h), bd_s, hpu]
        by_cases g2 : zr5 (fun u => sdz (τ.1 128) σ u q) = true
        · rw [if_pos g2, if_neg (by decide), if_pos ⟨g, g2⟩]; rfl
        · rw [if_neg g2, if_pos rfl, if_neg (fun w => g2 w.2)]; rfl
      · rw [if_neg (show ¬ nI left = 0 from fun w => g ((nI_eq (b := 0) (by omega) (by omega)).mp w)), if_neg (fun w => g w.1)]; rfl
    rw [st]
    unfold lsr
    constructor
    · intro l hll
      by_cases g : left = 0 ∧ zr5 (fun u => sdz (τ.1 128) σ u (q - 0)) = true
      · rw [if_pos g]; exact ⟨τ, rfl, FR_refl _ _, fun _ _ => rfl, fun i hi => absurd hi (Nat.not_lt_zero _)⟩
      · rw [if_neg g] at hll; cases hll
    · intro hll
      by_cases g : left = 0 ∧ zr5 (fun u => sdz (τ.1 128) σ u (q - 0)) = true
      · rw [if_pos g] at hll; cases hll
      · rw [if_neg g]; exact ⟨τ, rfl, FR_refl _ _, fun _ _ => rfl⟩
  | d + 1, m, left, τ, hd, hm, hl, h8, ht => by
    have hq := vq h
    obtain ⟨m, rfl⟩ : ∃ j, m = j + 1 := ⟨m - 1, by omega⟩
    have hk : q - (d + 1) < q := by omega
    have hkd : q - (d + 1) + 1 = q - d := by omega
    have st : m_isLeast_117 (m + 1) (nI (q - (d + 1))) (nI left) τ = m_isLeast_117_L30 (m_isLeast_117 m) fu (nI (q - (d + 1))) (nI left) (xI (-(left : Int))) τ := by
      show m_isLeast_117_H (m_isLeast_117 m) (nI (q - (d + 1))) (nI left) τ = _
      unfold m_isLeast_117_H
      rw [h8, v0 h, if_neg (fun w => by have := (nI_eq (by omega) (by omega)).mp w; omega), neg_n (by omega)]
    rw [st]
    have key : ∀ (e mm : Nat) (x : Int) (ρ : Sg), x + (e : Int) = (left : Int) + 1 → -(left : Int) ≤ x → e < mm → FR [128] τ ρ → (∀ j, j < q - (d + 1) → ρ.1 128 j = τ.1 128 j) → (∀ l, lsl (fun x => lsr σ q d (left - x.natAbs) (fun u => sdz (τ.1 128) σ u (q - (d + 1)) + x * dZ σ (q - (d + 1)) u)) e x = some l → ∃ τ', m_isLeast_117_L30 (m_isLeast_117 m) mm (nI (q - (d + 1))) (nI left) (xI x) ρ = some (1, τ') ∧ FR [128] τ τ' ∧ (∀ j, j < q - (d + 1) → τ'.1 128 j = τ.1 128 j) ∧ ∀ i, i < d + 1 → (τ'.1 128 (q - (d + 1) + i)).toInt = l.getD i 0) ∧ (lsl (fun x => lsr σ q d (left - x.natAbs) (fun u => sdz (τ.1 128) σ u (q - (d + 1)) + x * dZ σ (q - (d + 1)) u)) e x = none → ∃ τ', m_isLeast_117_L30 (m_isLeast_117 m) mm (nI (q - (d + 1))) (nI left) (xI x) ρ = some (0, τ') ∧ FR [128] τ τ' ∧ ∀ j, j < q - (d + 1) → τ'.1 128 j = τ.1 128 j) := by
      intro e
      induction e with
      | zero =>
        intro mm x ρ hx hx2 hmm fr pr
        obtain ⟨mm, rfl⟩ : ∃ j, mm = j + 1 := ⟨mm - 1, by omega⟩
        refine ⟨fun l hl => (by cases hl), fun _ => ⟨ρ, ?_, fr, pr⟩⟩
        show m_isLeast_117_H30 (m_isLeast_117 m) (m_isLeast_117_L30 (m_isLeast_117 m) mm) _ _ (xI x) ρ = _
        unfold m_isLeast_117_H30
        rw [if_pos ((gt_l (by omega)).mpr (by rw [xI_t (by omega)]; omega))]
      | succ e ih =>
        intro mm x ρ hx hx2 hmm fr pr
        obtain ⟨mm, rfl⟩ : ∃ j, mm = j + 1 := ⟨mm - 1, by omega⟩
        have hxl : x.natAbs ≤ left := by omega
        have hxt : (xI x).toInt = x := xI_t (by omega)
        have h8r : (si ρ 128 (q - (d + 1)) (xI x)).1 118 = σ.1 118 := by rw [si_c (by omega), FR_i fr (by decide)]; exact h8
        have hrec := mls h d m (left - x.natAbs) (si ρ 128 (q - (d + 1)) (xI x)) (by omega) (by omega) (by omega) h8r (fun j hj => by
          by_cases e : j = q - (d + 1)
          · rw [e, si_e, hxt]; omega
          · rw [si_j e, pr j (by omega)]; exact ht j (by omega))
        have hsd : (fun u => sdz ((si ρ 128 (q - (d + 1)) (xI x)).1 128) σ u (q - d)) = (fun u => sdz (τ.1 128) σ u (q - (d + 1)) + x * dZ σ (q - (d + 1)) u) := by
          funext u
          rw [← hkd]
          show sdz ((si ρ 128 (q - (d + 1)) (xI x)).1 128) σ u (q - (d + 1)) + ((si ρ 128 (q - (d + 1)) (xI x)).1 128 (q - (d + 1))).toInt * dZ σ (q - (d + 1)) u = _
          rw [si_e, hxt, sdz_cg (f := τ.1 128) (q - (d + 1)) (fun j hj => by rw [si_j (by omega), pr j hj])]
        rw [hsd] at hrec
        have hsub : (if 0 ≤ xI x then nI left - xI x else nI left - -(xI x)) = nI (left - x.natAbs) := by
          apply Int32.toInt_inj.mp
          rw [nI_toInt (by omega)]
          by_cases g : 0 ≤ x
          · rw [if_pos (show 0 ≤ xI x from (ge_l (b := 0) (by omega)).mpr (by rw [hxt]; omega)), Int32.toInt_sub, nI_toInt (by omega), hxt, bm32 (by omega) (by omega)]; omega
          · have hn : (-(xI x)).toInt = -x := by rw [Int32.toInt_neg, hxt]; exact bm32 (by omega) (by omega)
            rw [if_neg (show ¬ 0 ≤ xI x from fun w => g (by have := (ge_l (b := 0) (by omega)).mp w; rw [hxt] at this; omega)), Int32.toInt_sub, nI_toInt (by omega), hn, bm32 (by omega) (by omega)]; omega
        have st2 : m_isLeast_117_L30 (m_isLeast_117 m) (mm + 1) (nI (q - (d + 1))) (nI left) (xI x) ρ = bd (m_isLeast_117 m (nI (q - d)) (nI (left - x.natAbs)) (si ρ 128 (q - (d + 1)) (xI x))) fun r1 σ1 => if r1 = 0 then m_isLeast_117_L30 (m_isLeast_117 m) mm (nI (q - (d + 1))) (nI left) (xI (x + 1)) σ1 else some (1, σ1) := by
          show m_isLeast_117_H30 (m_isLeast_117 m) (m_isLeast_117_L30 (m_isLeast_117 m) mm) _ _ (xI x) ρ = _
          unfold m_isLeast_117_H30 m_isLeast_117_b57
          rw [if_neg (fun w => by have := (gt_l (by omega)).mp w; rw [hxt] at this; omega), inB_t (by omega) (by omega), gd_t, cl_n (by omega), nI_1, hkd, xI_1 (by omega), ← hsub]
          split <;> rfl
        rw [st2]
        cases hg : lsr σ q d (left - x.natAbs) (fun u => sdz (τ.1 128) σ u (q - (d + 1)) + x * dZ σ (q - (d + 1)) u) with
        | none =>
          obtain ⟨ρ', w1, w2, w3⟩ := hrec.2 hg
          rw [w1, bd_s, if_pos rfl, lsl_f (g := fun x => lsr σ q d (left - x.natAbs) (fun u => sdz (τ.1 128) σ u (q - (d + 1)) + x * dZ σ (q - (d + 1)) u)) hg]
          exact ih mm (x + 1) ρ' (by omega) (by omega) (by omega) (FR_trans (FR_si fr (by decide)) w2) (fun j hj => by rw [w3 j (by omega), si_j (by omega)]; exact pr j hj)
        | some l' =>
          obtain ⟨ρ', w1, w2, w3, w4⟩ := hrec.1 l' hg
          rw [w1, bd_s, if_neg (by decide), lsl_t (g := fun x => lsr σ q d (left - x.natAbs) (fun u => sdz (τ.1 128) σ u (q - (d + 1)) + x * dZ σ (q - (d + 1)) u)) hg]
          refine ⟨fun l hl => ?_, fun hl => (by cases hl)⟩
          obtain rfl : x :: l' = l := by simpa using hl
          refine ⟨ρ', rfl, FR_trans (FR_si fr (by decide)) w2, fun j hj => by rw [w3 j (by omega), si_j (by omega)]; exact pr j hj, ?_⟩
          intro i hi
          cases i with
          | zero => rw [Nat.add_zero, w3 _ (by omega), si_e, hxt]; rfl
          | succ i =>
            rw [show q - (d + 1) + (i + 1) = q - d + i by omega, w4 i (by omega)]; rfl
    exact key (2 * left + 1) fu (-(left : Int)) τ (by omega) (by omega) (fu_lt (by omega)) (FR_refl _ _) (fun _ _ => rfl)
