/-! ===== PURE: the class gathers the keys ===== -/
def gsm (g : Int → Nat) : Nat → Int → Nat
  | 0, _ => 0
  | e + 1, y => g y + gsm g e (y + 1)
/-- how many choices of powers there are -/
def GN : Nat → Nat → Nat
  | 0, _ => 1
  | d + 1, left => gsm (fun y => GN d (left - y.natAbs)) (2 * left + 1) (-(left : Int))
theorem GN_le : ∀ d, d < 9 → ∀ left, left < 4 → GN d left ≤ 833 := by decide +kernel
theorem jga {q : Nat} {σ : Sg} (hv : V70 q σ) : ∀ d m left (x : Int64) (v : Nat → Int) (τ : Sg) (S : List Int64), d ≤ q → d < m → left ≤ 3 → τ.2 61 = σ.2 61 → x.toInt = Kz v → (∀ u, u < 5 → (v u).natAbs ≤ 60 - 20 * left) → HT S (τ.2 84) → S.length + GN d left ≤ 1023 → ∃ r τ' S', j_gather_84_61 m (nI q) (nI (q - d)) (nI left) x τ = some (nI r, τ') ∧ FR [84] τ τ' ∧ HT S' (τ'.2 84) ∧ S'.length = S.length + r ∧ r ≤ GN d left ∧ ∀ y, y ∈ S' ↔ y ∈ S ∨ ∃ w, VG σ q d left v w ∧ y.toInt = Kz w
  | 0, m, left, x, v, τ, S, hd, hm, hl, h61, hx, hvb, hT, hcap => by
    have hq := hv.1
    obtain ⟨m, rfl⟩ : ∃ j, m = j + 1 := ⟨m - 1, by omega⟩
    have hg : GN 0 left = 1 := rfl
    have lx := Kz_le (v := v) (fun u hu => by have := hvb u hu; omega)
    have hkE : x ≠ EMP := by
      intro e
      rw [e, show EMP.toInt = -9223372036854775808 by decide] at hx
      omega
    have st : j_gather_84_61 (m + 1) (nI q) (nI (q - 0)) (nI left) x τ = bd (j_isNew_84 x τ) fun r1 σ1 => if r1 = 0 then some (0, σ1) else some (1, σ1) := by
      show j_gather_84_61_H (j_gather_84_61 m) (nI q) (nI (q - 0)) (nI left) x τ = _
      unfold j_gather_84_61_H j_gather_84_61_b19
      rw [if_neg (nI_nlt (by omega) (by omega))]
    rw [st]
    rcases jnew hT (by omega) hkE with ⟨w1, w2⟩ | ⟨w1, τ', w2, w3, w4⟩
    · refine ⟨0, τ, S, by rw [w2, bd_s, if_pos rfl]; rfl, FR_refl _ _, hT, rfl, Nat.zero_le _, fun y => ⟨Or.inl, ?_⟩⟩
      rintro (h | ⟨w, h1, h2⟩)
      · exact h
      · have h1' : w = v := h1
        subst h1'
        rw [L_eq (h2.trans hx.symm)]; exact w1
    · refine ⟨1, τ', x :: S, by rw [w2, bd_s, if_neg (by decide)]; rfl, w3, w4, rfl, by omega, fun y => ?_⟩
      constructor
      · intro h
        rcases List.mem_cons.mp h with rfl | h
        · exact Or.inr ⟨v, rfl, hx⟩
        · exact Or.inl h
      · rintro (h | ⟨w, h1, h2⟩)
        · exact List.mem_cons_of_mem _ h
        · have h1' : w = v := h1
          subst h1'
          rw [L_eq (h2.trans hx.symm)]; exact List.mem_cons_self ..
  | d + 1, m, left, x, v, τ, S, hd, hm, hl, h61, hx, hvb, hT, hcap => by
    have hq := hv.1
    have hM := hv.2.1
    obtain ⟨m, rfl⟩ : ∃ j, m = j + 1 := ⟨m - 1, by omega⟩
    have hk : q - (d + 1) < q := by omega
    have hkd : q - (d + 1) + 1 = q - d := by omega
    have hky : (σ.2 61 (q - (d + 1))).toInt = Kz (dZ σ (q - (d + 1))) := by rw [hv.2.2.2.2.1 _ hk]; exact kyd hM hk
    have hDl : ∀ u, u < 5 → (dZ σ (q - (d + 1)) u).natAbs ≤ 20 := fun u hu => dZ_le hM hk hu
    have ld := Kz_le (v := dZ σ (q - (d + 1))) (fun u hu => by have := hDl u hu; omega)
    have lx := Kz_le (v := v) (fun u hu => by have := hvb u hu; omega)
    have hGN : GN (d + 1) left = gsm (fun y => GN d (left - y.natAbs)) (2 * left + 1) (-(left : Int)) := rfl
    have st : j_gather_84_61 (m + 1) (nI q) (nI (q - (d + 1))) (nI left) x τ = j_gather_84_61_L28 (j_gather_84_61 m) fu (nI q) (nI (q - (d + 1))) (nI left) x (nI 0) (xI (-(left : Int))) τ := by
      show j_gather_84_61_H (j_gather_84_61 m) (nI q) (nI (q - (d + 1))) (nI left) x τ = _
      unfold j_gather_84_61_H
      rw [if_pos (nI_lt hk (by omega)), neg_n (by omega)]; rfl
    have key : ∀ (e mm a : Nat) (y : Int) (ρ : Sg) (S1 : List Int64), y + (e : Int) = (left : Int) + 1 → -(left : Int) ≤ y → e < mm → FR [84] τ ρ → HT S1 (ρ.2 84) → S1.length = S.length + a → S1.length + gsm (fun y => GN d (left - y.natAbs)) e y ≤ 1023 → (∀ z, z ∈ S1 ↔ z ∈ S ∨ ∃ (p : Int) (w : Nat → Int), -(left : Int) ≤ p ∧ p < y ∧ VG σ q d (left - p.natAbs) (fun u => v u + p * dZ σ (q - (d + 1)) u) w ∧ z.toInt = Kz w) → ∃ r τ' S', j_gather_84_61_L28 (j_gather_84_61 m) mm (nI q) (nI (q - (d + 1))) (nI left) x (nI a) (xI y) ρ = some (nI r, τ') ∧ FR [84] τ τ' ∧ HT S' (τ'.2 84) ∧ S'.length = S.length + r ∧ S'.length ≤ S1.length + gsm (fun y => GN d (left - y.natAbs)) e y ∧ ∀ z, z ∈ S' ↔ z ∈ S ∨ ∃ (p : Int) (w : Nat → Int), -(left : Int) ≤ p ∧ p < (left : Int) + 1 ∧ VG σ q d (left - p.natAbs) (fun u => v u + p * dZ σ (q - (d + 1)) u) w ∧ z.toInt = Kz w := by
      intro e
      induction e with
      | zero =>
        intro mm a y ρ S1 hy hy2 hmm fr hT1 hlen hc hmem
        obtain ⟨mm, rfl⟩ : ∃ j, mm = j + 1 := ⟨mm - 1, by omega⟩
        have ey : y = (left : Int) + 1 := by omega
        refine ⟨a, ρ, S1, ?_, fr, hT1, hlen, by omega, fun z => by rw [hmem z, ey]⟩
        show j_gather_84_61_H28 (j_gather_84_61 m) (j_gather_84_61_L28 (j_gather_84_61 m) mm) _ _ _ x (nI a) (xI y) ρ = _
        unfold j_gather_84_61_H28
        rw [if_pos ((gt_l (by omega)).mpr (by rw [xI_t (by omega)]; omega))]
      | succ e ih =>
        intro mm a y ρ S1 hy hy2 hmm fr hT1 hlen hc hmem
        obtain ⟨mm, rfl⟩ : ∃ j, mm = j + 1 := ⟨mm - 1, by omega⟩
        have hyn : y.natAbs ≤ left := by omega
        have hyt : (xI y).toInt = y := xI_t (by omega)
        have h61r : ρ.2 61 = σ.2 61 := by rw [FR_l fr (by decide)]; exact h61
        have hyD : (y * Kz (dZ σ (q - (d + 1)))).natAbs ≤ 1800000000000000000 := by
          rw [Int.natAbs_mul]
          have := Nat.mul_le_mul (show y.natAbs ≤ 3 by omega) ld
          omega
        have e1 : ((xI y).toInt64 * σ.2 61 (q - (d + 1))).toInt = y * Kz (dZ σ (q - (d + 1))) := L_mul (by rw [Int32.toInt_toInt64, hyt]) hky (by omega) (by omega)
        have e2 : (x + (xI y).toInt64 * σ.2 61 (q - (d + 1))).toInt = Kz (fun u => v u + y * dZ σ (q - (d + 1)) u) := by
          rw [Kz_add v (fun u => y * dZ σ (q - (d + 1)) u), Kz_mul]
          exact L_add hx e1 (by omega) (by omega)
        have hgs : gsm (fun y => GN d (left - y.natAbs)) (e + 1) y = GN d (left - y.natAbs) + gsm (fun y => GN d (left - y.natAbs)) e (y + 1) := rfl
        have hsub : nI left - iabs (xI y) = nI (left - y.natAbs) := by
          apply Int32.toInt_inj.mp
          rw [Int32.toInt_sub, iabs_int (by omega), hyt, nI_toInt (by omega), nI_toInt (by omega), bm32 (by omega) (by omega)]; omega
        obtain ⟨r, τ1, S2, w1, w2, w3, w4, w5, w6⟩ := jga hv d m (left - y.natAbs) (x + (xI y).toInt64 * σ.2 61 (q - (d + 1))) (fun u => v u + y * dZ σ (q - (d + 1)) u) ρ S1 (by omega) (by omega) (by omega) h61r e2 (fun u hu => by
          have w1 := hvb u hu
          have w2 := hDl u hu
          have w3 : (y * dZ σ (q - (d + 1)) u).natAbs ≤ y.natAbs * 20 := by
            rw [Int.natAbs_mul]; exact Nat.mul_le_mul_left _ w2
          show (v u + y * dZ σ (q - (d + 1)) u).natAbs ≤ _
          generalize y * dZ σ (q - (d + 1)) u = yy at w3
          omega) hT1 (by omega)
        have st2 : j_gather_84_61_L28 (j_gather_84_61 m) (mm + 1) (nI q) (nI (q - (d + 1))) (nI left) x (nI a) (xI y) ρ = j_gather_84_61_L28 (j_gather_84_61 m) mm (nI q) (nI (q - (d + 1))) (nI left) x (nI (a + r)) (xI (y + 1)) τ1 := by
          show j_gather_84_61_H28 (j_gather_84_61 m) (j_gather_84_61_L28 (j_gather_84_61 m) mm) _ _ _ x (nI a) (xI y) ρ = _
          unfold j_gather_84_61_H28
          rw [if_neg (fun w => by have := (gt_l (by omega)).mp w; rw [hyt] at this; omega), inB_t (by omega) (by omega), gd_t, cl_n (by omega), nI_1, hkd, h61r, hsub, w1, bd_s, nI_add, xI_1 (by omega)]
        rw [st2]
        obtain ⟨r', τ2, S3, y1, y2, y3, y4, y5, y6⟩ := ih mm (a + r) (y + 1) τ1 S2 (by omega) (by omega) (by omega) (FR_trans fr w2) w3 (by omega) (by omega) (fun z => by
          rw [w6 z, hmem z]
          constructor
          · rintro ((h | ⟨p, w, p1, p2, p3⟩) | ⟨w, p1, p2⟩)
            · exact Or.inl h
            · exact Or.inr ⟨p, w, p1, by omega, p3⟩
            · exact Or.inr ⟨y, w, hy2, by omega, p1, p2⟩
          · rintro (h | ⟨p, w, p1, p2, p3⟩)
            · exact Or.inl (Or.inl h)
            · by_cases g : p = y
              · subst g; exact Or.inr ⟨w, p3⟩
              · exact Or.inl (Or.inr ⟨p, w, p1, by omega, p3⟩))
        exact ⟨r', τ2, S3, y1, y2, y3, y4, by omega, y6⟩
    rw [st]
    obtain ⟨r, τ', S', w1, w2, w3, w4, w5, w6⟩ := key (2 * left + 1) fu 0 (-(left : Int)) τ S (by omega) (by omega) (fu_lt (by omega)) (FR_refl _ _) hT rfl (by omega) (fun z => ⟨Or.inl, fun h => by
      rcases h with h | ⟨p, w, p1, p2, p3⟩
      · exact h
      · omega⟩)
    refine ⟨r, τ', S', w1, w2, w3, w4, by omega, fun z => ?_⟩
    rw [w6 z]
    constructor
    · rintro (h | ⟨p, w, p1, p2, p3, p4⟩)
      · exact Or.inl h
      · exact Or.inr ⟨w, ⟨p, by omega, p3⟩, p4⟩
    · rintro (h | ⟨w, ⟨p, p1, p3⟩, p4⟩)
      · exact Or.inl h
      · exact Or.inr ⟨p, w, by omega, by omega, p3, p4⟩
