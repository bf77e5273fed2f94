/-! ===== PURE: box ===== -/
theorem dZ_le {q : Nat} {σ : Sg} (h : MR 1 118 q σ) {k u : Nat} (hk : k < q) (hu : u < 5) : (dZ σ k u).natAbs ≤ 20 := dm_2000 h hk hu
theorem zr5_iff {v : Nat → Int} : zr5 v = true ↔ ∀ u, u < 5 → v u = 0 := by
  unfold zr5
  simp only [Bool.and_eq_true, decide_eq_true_eq]
  constructor
  · rintro ⟨⟨⟨⟨h0, h1⟩, h2⟩, h3⟩, h4⟩ u hu
    rcases lt5 hu with rfl | rfl | rfl | rfl | rfl <;> assumption
  · intro h
    exact ⟨⟨⟨⟨h 0 (by omega), h 1 (by omega)⟩, h 2 (by omega)⟩, h 3 (by omega)⟩, h 4 (by omega)⟩
def bxc (σ : Sg) (q : Nat) : Nat → (Nat → Int) → Nat
  | 0, v => if zr5 v = true then 1 else 0
  | d + 1, v => bxc σ q d (fun u => v u - dZ σ (q - (d + 1)) u) + bxc σ q d v + bxc σ q d (fun u => v u + dZ σ (q - (d + 1)) u)
theorem bxc_le (σ : Sg) (q : Nat) : ∀ d v, bxc σ q d v ≤ 3 ^ d
  | 0, v => by unfold bxc; split <;> decide
  | d + 1, v => by
    have a := bxc_le σ q d (fun u => v u - dZ σ (q - (d + 1)) u)
    have b := bxc_le σ q d v
    have c := bxc_le σ q d (fun u => v u + dZ σ (q - (d + 1)) u)
    have : 3 ^ (d + 1) = 3 ^ d + 3 ^ d + 3 ^ d := by rw [Nat.pow_succ]; omega
    show bxc σ q d _ + bxc σ q d v + bxc σ q d _ ≤ _
    omega
theorem p3_le {a b : Nat} (h : a ≤ b) : 3 ^ a ≤ 3 ^ b := Nat.pow_le_pow_right (by omega) h
theorem bxc_cg (σ : Sg) (q : Nat) : ∀ d v v', (∀ u, u < 5 → v u = v' u) → bxc σ q d v = bxc σ q d v'
  | 0, v, v', h => by
    unfold bxc zr5
    rw [h 0 (by omega), h 1 (by omega), h 2 (by omega), h 3 (by omega), h 4 (by omega)]
  | d + 1, v, v', h => by
    show bxc σ q d _ + bxc σ q d v + bxc σ q d _ = bxc σ q d _ + bxc σ q d v' + bxc σ q d _
    rw [bxc_cg σ q d (fun u => v u - dZ σ (q - (d + 1)) u) (fun u => v' u - dZ σ (q - (d + 1)) u) (fun u hu => by rw [h u hu]), bxc_cg σ q d v v' h, bxc_cg σ q d (fun u => v u + dZ σ (q - (d + 1)) u) (fun u => v' u + dZ σ (q - (d + 1)) u) (fun u hu => by rw [h u hu])]
theorem jbx {n q ver : Nat} {σ : Sg} (h : VV n q ver σ) : ∀ d m (x : Int64) (v : Nat → Int), d ≤ q → d < m → x.toInt = Kz v → (∀ u, u < 5 → (v u).natAbs ≤ (q - d) * 20) → j_pureInBox_61 m (nI q) (nI (q - d)) x σ = some (nI (bxc σ q d v), σ)
  | 0, m, x, v, hd, hm, hx, hv => by
    have hq := vq h
    obtain ⟨m, rfl⟩ : ∃ k, m = k + 1 := ⟨m - 1, by omega⟩
    show j_pureInBox_61_H (j_pureInBox_61 m) (nI q) (nI (q - 0)) x σ = _
    unfold j_pureInBox_61_H j_pureInBox_61_b16 bxc
    have hz := Kz_0 (v := v) (fun u hu => by have := hv u hu; omega)
    rw [if_neg (nI_nlt (by omega) (by omega))]
    by_cases g : zr5 v = true
    · rw [if_pos (cmp_eq.mpr (L_eq (by rw [hx, hz.mpr (zr5_iff.mp g)]; rfl))), if_pos g]; rfl
    · rw [if_neg (fun w => g (zr5_iff.mpr (hz.mp (by rw [← hx, cmp_eq.mp w]; rfl)))), if_neg g]; rfl
  | d + 1, m, x, v, hd, hm, hx, hv => by
    have hq := vq h
    obtain ⟨m, rfl⟩ : ∃ k, m = k + 1 := ⟨m - 1, by omega⟩
    have hk : q - (d + 1) < q := by omega
    have hkd : q - (d + 1) + 1 = q - d := by omega
    have hky : (σ.2 61 (q - (d + 1))).toInt = Kz (dZ σ (q - (d + 1))) := by rw [(vSP h).2.2.1 _ hk]; exact kyd (vMR h) hk
    have hD : ∀ u, u < 5 → (dZ σ (q - (d + 1)) u).natAbs ≤ 20 := fun u hu => dZ_le (vMR h) hk hu
    have lx := Kz_le (v := v) (fun u hu => by have := hv u hu; omega)
    have ld := Kz_le (v := dZ σ (q - (d + 1))) (fun u hu => by have := hD u hu; omega)
    have e1 : (x - σ.2 61 (q - (d + 1))).toInt = Kz (fun u => v u - dZ σ (q - (d + 1)) u) := by
      rw [Kz_sub]; exact L_sub hx hky (by omega) (by omega)
    have e3 : (x + σ.2 61 (q - (d + 1))).toInt = Kz (fun u => v u + dZ σ (q - (d + 1)) u) := by
      rw [Kz_add]; exact L_add hx hky (by omega) (by omega)
    have i1 := jbx h d m (x - σ.2 61 (q - (d + 1))) (fun u => v u - dZ σ (q - (d + 1)) u) (by omega) (by omega) e1 (fun u hu => by
      have w1 := hv u hu
      have w2 := hD u hu
      omega)
    have i2 := jbx h d m x v (by omega) (by omega) hx (fun u hu => by have w1 := hv u hu; omega)
    have i3 := jbx h d m (x + σ.2 61 (q - (d + 1))) (fun u => v u + dZ σ (q - (d + 1)) u) (by omega) (by omega) e3 (fun u hu => by
      have w1 := hv u hu
      have w2 := hD u hu
      omega)
    have b1 := bxc_le σ q d (fun u => v u - dZ σ (q - (d + 1)) u)
    have b2 := bxc_le σ q d v
    have b3 := bxc_le σ q d (fun u => v u + dZ σ (q - (d + 1)) u)
    have bp := p3_le (show d ≤ 7 by omega)
    show j_pureInBox_61_H (j_pureInBox_61 m) (nI q) (nI (q - (d + 1))) x σ = _
    unfold j_pureInBox_61_H
    rw [if_pos (nI_lt hk (by omega)), inB_t (by omega) (by omega), gd_t, cl_n (by omega), nI_1, hkd, i1, bd_s, i2, bd_s, gd_t, i3, bd_s, nI_add, nI_add]
    rfl
/-! the reference goes through them one by one -/
def sdz (f : Nat → Int32) (σ : Sg) (u : Nat) : Nat → Int
  | 0 => 0
  | k + 1 => sdz f σ u k + (f k).toInt * dZ σ k u
theorem sdp_z {f : Nat → Int32} {σ : Sg} {q u : Nat} (hu : u < 5) (hM : MR 1 118 q σ) (hf : ∀ k, k < q → nok (f k)) : ∀ k, k ≤ q → k ≤ 8 → (sdp f σ u k).toInt = sdz f σ u k
  | 0, _, _ => rfl
  | k + 1, hk, hk8 => by
    have ih := sdp_z hu hM hf k (by omega) (by omega)
    have hl := sdp_le hu hM hf k (by omega) (by omega)
    have hd := dm_rng hM (show k < q by omega) hu
    have hx := nok_int (hf k (by omega))
    have hp : ((f k).toInt * (dm σ k u).toInt).natAbs ≤ 1980 := by
      rw [Int.natAbs_mul]
      exact Nat.mul_le_mul (show (f k).toInt.natAbs ≤ 99 by omega) (show (dm σ k u).toInt.natAbs ≤ 20 by omega)
    have hm : (f k * dm σ k u).toInt = (f k).toInt * (dm σ k u).toInt := by
      rw [Int32.toInt_mul]; exact bm32 (by omega) (by omega)
    show (sdp f σ u k + f k * dm σ k u).toInt = sdz f σ u k + (f k).toInt * (dm σ k u).toInt
    rw [Int32.toInt_add, hm, bm32 (by omega) (by omega), ih]
theorem sdz_cg {f f' : Nat → Int32} {σ : Sg} {u : Nat} : ∀ k, (∀ j, j < k → f' j = f j) → sdz f' σ u k = sdz f σ u k
  | 0, _ => rfl
  | k + 1, h => by
    show sdz f' σ u k + (f' k).toInt * dZ σ k u = sdz f σ u k + (f k).toInt * dZ σ k u
    rw [sdz_cg k (fun j hj => h j (by omega)), h k (by omega)]
theorem pu_z {f : Nat → Int32} {σ : Sg} {q : Nat} (hq : q ≤ 8) (hM : MR 1 118 q σ) (hf : ∀ k, k < q → nok (f k)) : pu f σ q 5 = if zr5 (fun u => sdz f σ u q) = true then 1 else 0 := by
  have z : (0 : Int32).toInt = 0 := by decide
  rcases pu_01 f σ q 5 with ⟨e, g⟩ | ⟨e, g⟩
  · rw [e, if_pos (zr5_iff.mpr (fun u hu => by rw [← sdp_z hu hM hf q (Nat.le_refl _) hq, g u hu]; rfl))]
  · rw [e, if_neg (fun w => g (fun u hu => Int32.toInt_inj.mp (by rw [sdp_z hu hM hf q (Nat.le_refl _) hq, zr5_iff.mp w u hu, z])))]
def t1 (x : Int32) : Prop := x = -1 ∨ x = 0 ∨ x = 1
theorem t1_nok {x : Int32} (h : t1 x) : nok x := by
  rcases h with rfl | rfl | rfl <;> decide
theorem mbx {n q ver : Nat} {σ0 : Sg} (h : VV n q ver σ0) : ∀ d m c (τ : Sg), d ≤ q → c + 3 ^ d < 2 ^ 31 → FR [128] σ0 τ → (∀ j, j < q → t1 (τ.1 128 j)) → (∀ j, q - d ≤ j → j < q → τ.1 128 j = -1) → ∃ τ', m_box_117_L29 (m + 3 ^ d) (nI c) 1 τ = m_box_117_L57 (m_box_117_L29 m) (20000 - d) (nI (c + bxc σ0 q d (fun u => sdz (τ.1 128) σ0 u (q - d)))) (nI (q - d) - 1) τ' ∧ FR [128] σ0 τ' ∧ ∀ j, j < q → τ'.1 128 j = τ.1 128 j
  | 0, m, c, τ, hd, hc, f, ht, hs => by
    have hq := vq h
    have h8 : τ.1 118 = σ0.1 118 := FR_i f (by decide)
    refine ⟨τ, ?_, f, fun j _ => rfl⟩
    show m_box_117_H29 (m_box_117_L29 m) (nI c) 1 τ = _
    unfold m_box_117_H29 m_box_117_b46
    have hpu : pu (τ.1 128) τ q 5 = if zr5 (fun u => sdz (τ.1 128) σ0 u q) = true then 1 else 0 := by
      rw [pu_cg (f := τ.1 128) (σ := σ0) (dm_fr h8) (fun _ _ => rfl), pu_z hq (vMR h) (fun k hk => t1_nok (ht k hk))]
    rw [if_neg (show ¬ (1 : Int32) = 0 by decide), mtp hq (by rw [h8]; exact v0 h), bd_s, hpu, h8, v0 h]
    show _ = m_box_117_L57 (m_box_117_L29 m) 20000 (nI (c + if zr5 (fun u => sdz (τ.1 128) σ0 u q) = true then 1 else 0)) (nI q - 1) τ
    by_cases g : zr5 (fun u => sdz (τ.1 128) σ0 u q) = true
    · rw [if_pos g, if_neg (show ¬ (1 : Int32) = 0 by decide), if_pos g, nI_1]; rfl
    · rw [if_neg g, if_pos rfl, if_neg g, ad0]; rfl
  | d + 1, m, c, τ, hd, hc, f, ht, hs => by
    have hq := vq h
    have hk : q - (d + 1) < q := by omega
    have hkd : q - d = q - (d + 1) + 1 := by omega
    have hp : 3 ^ (d + 1) = 3 ^ d + 3 ^ d + 3 ^ d := by rw [Nat.pow_succ]; omega
    have p0 : 0 < 3 ^ d := Nat.pow_pos (by omega)
    have hpr : nI (q - d) - 1 = nI (q - (d + 1)) := by rw [hkd, nI_pred]
    have hfu : 20000 - d = (20000 - (d + 1)) + 1 := by omega
    -- a step of the odometer at place k
    have up : ∀ (mm : Nat) (x : Nat) (ρ : Sg) (y : Int32), FR [128] σ0 ρ → ρ.1 128 (q - (d + 1)) = y → y ≠ 1 → m_box_117_L57 (m_box_117_L29 mm) (20000 - d) (nI x) (nI (q - d) - 1) ρ = m_box_117_L29 mm (nI x) 1 (si ρ 128 (q - (d + 1)) (y + 1)) := by
      intro mm x ρ y _ hy hy1
      rw [hfu, hpr]
      show m_box_117_H57 (m_box_117_L29 mm) (m_box_117_L57 (m_box_117_L29 mm) (20000 - (d + 1))) (nI x) (nI (q - (d + 1))) ρ = _
      unfold m_box_117_H57 m_box_117_b84 m_box_117_b93 m_box_117_b108
      rw [if_neg (nI_pos (by omega)), inB_t (by omega) (by omega), gd_t, cl_n (by omega), hy, if_neg hy1, if_neg (nI_pos (by omega)), if_neg (show ¬ (1 : Int32) = 0 by decide), gd_t, gd_t]
    have split : ∀ mm, m + 3 ^ (d + 1) = mm → mm = ((m + 3 ^ d) + 3 ^ d) + 3 ^ d := fun mm e => by omega
    rw [split _ rfl]
    have hm1 : τ.1 128 (q - (d + 1)) = -1 := hs _ (by omega) hk
    obtain ⟨τ1, w1, w2, w3⟩ := mbx h d (m + 3 ^ d + 3 ^ d) c τ (by omega) (by omega) f ht (fun j h1 h2 => hs j (by omega) h2)
    have hsd : ∀ (ρ : Sg) (y : Int32) (u : Nat), (∀ j, j < q → j ≠ q - (d + 1) → ρ.1 128 j = τ.1 128 j) → ρ.1 128 (q - (d + 1)) = y → sdz (ρ.1 128) σ0 u (q - d) = sdz (τ.1 128) σ0 u (q - (d + 1)) + y.toInt * dZ σ0 (q - (d + 1)) u := by
      intro ρ y u hj hy
      rw [hkd]
      show sdz (ρ.1 128) σ0 u (q - (d + 1)) + (ρ.1 128 (q - (d + 1))).toInt * dZ σ0 (q - (d + 1)) u = _
      rw [hy, sdz_cg (f := τ.1 128) (f' := ρ.1 128) (q - (d + 1)) (fun j hj' => hj j (by omega) (by omega))]
    have b1 := bxc_le σ0 q d (fun u => sdz (τ.1 128) σ0 u (q - d))
    rw [w1, up _ _ τ1 (-1) w2 (by rw [w3 _ hk, hm1]) (by decide)]
    generalize hρ1 : si τ1 128 (q - (d + 1)) (-1 + 1) = ρ1
    have r1k : ρ1.1 128 (q - (d + 1)) = 0 := by rw [← hρ1, si_e]; decide
    have r1o : ∀ j, j < q → j ≠ q - (d + 1) → ρ1.1 128 j = τ.1 128 j := fun j hj hne => by rw [← hρ1, si_j hne, w3 j hj]
    have f1 : FR [128] σ0 ρ1 := by rw [← hρ1]; exact FR_si w2 (by decide)
    obtain ⟨τ2, x1, x2, x3⟩ := mbx h d (m + 3 ^ d) (c + bxc σ0 q d (fun u => sdz (τ.1 128) σ0 u (q - d))) ρ1 (by omega) (by omega) f1 (fun j hj => by
      by_cases e : j = q - (d + 1)
      · rw [e, r1k]; exact Or.inr (Or.inl rfl)
      · rw [r1o j hj e]; exact ht j hj) (fun j h1 h2 => by rw [r1o j h2 (by omega)]; exact hs j (by omega) h2)
    have b2 := bxc_le σ0 q d (fun u => sdz (ρ1.1 128) σ0 u (q - d))
    rw [x1, up _ _ τ2 0 x2 (by rw [x3 _ hk, r1k]) (by decide)]
    generalize hρ2 : si τ2 128 (q - (d + 1)) (0 + 1) = ρ2
    have r2k : ρ2.1 128 (q - (d + 1)) = 1 := by rw [← hρ2, si_e]; decide
    have r2o : ∀ j, j < q → j ≠ q - (d + 1) → ρ2.1 128 j = τ.1 128 j := fun j hj hne => by rw [← hρ2, si_j hne, x3 j hj, r1o j hj hne]
    have f2 : FR [128] σ0 ρ2 := by rw [← hρ2]; exact FR_si x2 (by decide)
    obtain ⟨τ3, y1, y2, y3⟩ := mbx h d m (c + bxc σ0 q d (fun u => sdz (τ.1 128) σ0 u (q - d)) + bxc σ0 q d (fun u => sdz (ρ1.1 128) σ0 u (q - d))) ρ2 (by omega) (by omega) f2 (fun j hj => by
      by_cases e : j = q - (d + 1)
      · rw [e, r2k]; exact Or.inr (Or.inr rfl)
      · rw [r2o j hj e]; exact ht j hj) (fun j h1 h2 => by rw [r2o j h2 (by omega)]; exact hs j (by omega) h2)
    refine ⟨si τ3 128 (q - (d + 1)) (-1), ?_, FR_si y2 (by decide), ?_⟩
    · rw [y1, hfu, hpr]
      have e1 : bxc σ0 q d (fun u => sdz (τ.1 128) σ0 u (q - d)) = bxc σ0 q d (fun u => sdz (τ.1 128) σ0 u (q - (d + 1)) - dZ σ0 (q - (d + 1)) u) := by
        refine bxc_cg σ0 q d _ _ (fun u _ => ?_)
        rw [hsd τ (-1) u (fun _ _ _ => rfl) hm1, show (-1 : Int32).toInt = -1 by decide]; omega
      have e2 : bxc σ0 q d (fun u => sdz (ρ1.1 128) σ0 u (q - d)) = bxc σ0 q d (fun u => sdz (τ.1 128) σ0 u (q - (d + 1))) := by
        refine bxc_cg σ0 q d _ _ (fun u _ => ?_)
        rw [hsd ρ1 0 u r1o r1k, show (0 : Int32).toInt = 0 by decide]; omega
      have e3 : bxc σ0 q d (fun u => sdz (ρ2.1 128) σ0 u (q - d)) = bxc σ0 q d (fun u => sdz (τ.1 128) σ0 u (q - (d + 1)) + dZ σ0 (q - (d + 1)) u) := by
        refine bxc_cg σ0 q d _ _ (fun u _ => ?_)
        rw [hsd ρ2 1 u r2o r2k, show (1 : Int32).toInt = 1 by decide]; omega
      have hsum : c + bxc σ0 q (d + 1) (fun u => sdz (τ.1 128) σ0 u (q - (d + 1))) = c + bxc σ0 q d (fun u => sdz (τ.1 128) σ0 u (q - d)) + bxc σ0 q d (fun u => sdz (ρ1.1 128) σ0 u (q - d)) + bxc σ0 q d (fun u => sdz (ρ2.1 128) σ0 u (q - d)) := by
        rw [e1, e2, e3]
        show c + (bxc σ0 q d (fun u => sdz (τ.1 128) σ0 u (q - (d + 1)) - dZ σ0 (q - (d + 1)) u) + bxc σ0 q d (fun u => sdz (τ.1 128) σ0 u (q - (d + 1))) + bxc σ0 q d (fun u => sdz (τ.1 128) σ0 u (q - (d + 1)) + dZ σ0 (q - (d + 1)) u)) = _
        omega
      rw [hsum]
      show m_box_117_H57 (m_box_117_L29 m) (m_box_117_L57 (m_box_117_L29 m) (20000 - (d + 1))) _ (nI (q - (d + 1))) τ3 = _
      unfold m_box_117_H57
      rw [if_neg (nI_pos (by omega)), inB_t (by omega) (by omega), gd_t, cl_n (by omega), y3 _ hk, r2k, if_pos rfl, gd_t]
      have : nI (q - (d + 1)) + (-1) = nI (q - (d + 1)) - 1 := by generalize nI (q - (d + 1)) = z; grind
      rw [this]
    · intro j hj
      by_cases e : j = q - (d + 1)
      · rw [e, si_e, hm1]
      · rw [si_j e, y3 j hj, r2o j hj e]
theorem op_box {n q ver : Nat} {σ : Sg} (hn : n < 512) (h : VV n q ver σ) : ∃ r σ1 σ2, j_box_0 σ = some (r, σ1) ∧ m_box_117 σ1 = some (r, σ2) ∧ VI (n + 1) σ2 := by
  have hq := vq h
  have hp := p3_le (show q ≤ 8 from hq)
  have h38 : 3 ^ 8 = 6561 := by decide
  have hj := jbx h q 12 0 (fun _ => 0) (Nat.le_refl _) (by omega) (by decide) (fun u _ => by show (0 : Int).natAbs ≤ _; omega)
  rw [show q - q = 0 by omega] at hj
  -- the reference's start: all -1
  have beg : ∃ τ, m_box_117 σ = m_box_117_L29 20000 (nI 0) 1 τ ∧ FR [128] σ τ ∧ ∀ j, j < q → τ.1 128 j = -1 := by
    unfold m_box_117
    refine loopE (L := fun m i s => m_box_117_L2 m (nI i) s) (N := q) (P := fun i τ => FR [128] σ τ ∧ ∀ j, j < i → τ.1 128 j = -1) (Q := fun r => ∃ τ, r = m_box_117_L29 20000 (nI 0) 1 τ ∧ FR [128] σ τ ∧ ∀ j, j < q → τ.1 128 j = -1) ?_ ?_ (fu_lt (by omega)) ⟨FR_refl _ _, fun j hj => absurd hj (Nat.not_lt_zero _)⟩
    · rintro m i τ hi ⟨f, g⟩
      refine ⟨si τ 128 i (-1), ?_, FR_si f (by decide), ?_⟩
      · show m_box_117_H2 (m_box_117_L2 m) (nI i) τ = _
        unfold m_box_117_H2
        rw [FR_i f (by decide), v0 h, if_neg (nI_ge hi (by omega)), inB_t (by omega) (by omega), gd_t, cl_n (by omega), nI_1]
      · intro j hj
        by_cases e : j = i
        · rw [e, si_e]
        · rw [si_j e]; exact g j (by omega)
    · rintro m τ ⟨f, g⟩
      refine ⟨τ, ?_, f, g⟩
      show m_box_117_H2 (m_box_117_L2 m) (nI q) τ = _
      unfold m_box_117_H2
      rw [FR_i f (by decide), v0 h, if_pos (nI_le (by omega) (by omega))]; rfl
  obtain ⟨τ, b1, b2, b3⟩ := beg
  obtain ⟨τ', w1, w2, w3⟩ := mbx h q (20000 - 3 ^ q) 0 τ (Nat.le_refl _) (by omega) b2 (fun j hj => Or.inl (b3 j hj)) (fun j _ hj => b3 j hj)
  rw [show 20000 - 3 ^ q + 3 ^ q = 20000 by omega, show q - q = 0 by omega, Nat.zero_add] at w1
  refine ⟨nI (bxc σ q q (fun _ => 0)), σ, τ', ?_, ?_, fin_kp hn h (Kp_S w2 (by decide))⟩
  · unfold j_box_0 j_countBox_80
    rw [(vSP h).1]
    have hj' : j_pureInBox_61 12 (nI q) 0 0 σ = some (nI (bxc σ q q (fun _ => 0)), σ) := hj
    rw [hj', bd_s, bd_s]
  · rw [b1, w1]
    have e0 : bxc σ q q (fun u => sdz (τ.1 128) σ u 0) = bxc σ q q (fun _ => 0) := rfl
    rw [e0, show 20000 - q = (19999 - q) + 1 by omega]
    show m_box_117_H57 (m_box_117_L29 (20000 - 3 ^ q)) (m_box_117_L57 (m_box_117_L29 (20000 - 3 ^ q)) (19999 - q)) _ (nI 0 - 1) τ' = _
    unfold m_box_117_H57 m_box_117_b84 m_box_117_b93 m_box_117_b108
    have hneg : nI 0 - 1 < 0 := by decide
    rw [if_pos hneg, if_pos hneg, if_pos rfl, show 20000 - 3 ^ q = (19999 - 3 ^ q) + 1 by omega]
    show m_box_117_H29 (m_box_117_L29 (19999 - 3 ^ q)) _ 0 τ' = _
    unfold m_box_117_H29
    rw [if_pos rfl]
