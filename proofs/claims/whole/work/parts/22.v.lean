/-! ===== PURE: what holds between two calls, and what leaves it alone ===== -/
def CCh (q ver : Nat) (σ : Sg) : Prop := σ.1 70 3 = -1 ∨ ∃ w, w ≤ ver ∧ σ.1 70 3 = nI w ∧ (w = ver → ∃ ρ, (∀ k u, k < q → u < 5 → dm ρ k u = dm σ k u) ∧ LKQ ρ q σ)
def CSe (q ver : Nat) (σ : Sg) : Prop := (∀ u, u < 5 → σ.1 104 u = 0) ∧ (σ.1 80 3 = -1 ∨ ∃ w, w ≤ ver ∧ σ.1 80 3 = nI w ∧ (w = ver → ∃ ρ, (∀ k u, k < q → u < 5 → dm ρ k u = dm σ k u) ∧ LSP ρ q σ))
/-- a FORMULA as both keep it -/
def FM (b g q : Nat) (σ : Sg) : Prop := (∃ len, len ≤ 72 ∧ σ.1 b 6 = nI len ∧ ((σ.1 b 7 = -9 ∧ σ.1 g 66 = 0) ∨ (1 ≤ len ∧ σ.1 g 66 = nI len ∧ σ.1 b 7 = σ.1 g 65 ∧ σ.1 b 7 ≠ -9 ∧ (∀ j, j < len → σ.1 (b + 13) j = σ.1 g (67 + j)) ∧ Fok q len (fun j => σ.1 g (67 + j)))))
/-- the QUANTITIES as both keep them: b the class's object, g the reference's row -/
def MR (b g q : Nat) (σ : Sg) : Prop := σ.1 b 0 = nI q ∧ σ.1 g 0 = nI q ∧ (∀ k, k < q → ∃ κ, κ < 6 ∧ σ.1 (b + 1) k = nI κ ∧ σ.1 g (1 + k) = nI κ) ∧ (∀ k u, k < q → u < 5 → σ.1 (b + 2 + 1 + k) u = σ.1 g (9 + 5 * k + u) ∧ tv (σ.1 g (9 + 5 * k + u))) ∧ (∀ k, k < q → SC (σ.1 (b + 11) k) (σ.1 (b + 12) k) (σ.1 g (49 + k)) (σ.1 g (57 + k))) ∧ FM b g q σ
def IM (σ : Sg) : Prop := (σ.1 0 2 = 0 ∧ σ.1 117 2 = 0) ∨ (σ.1 0 2 = 1 ∧ σ.1 117 2 = 1 ∧ ∃ q, q ≤ 8 ∧ MR 15 119 q σ)
def LR (σ : Sg) : Prop := ∃ c, c ≤ 72 ∧ σ.1 0 9 = nI c ∧ σ.1 117 5 = nI c ∧ ∀ j, j < c → σ.1 107 j = σ.1 121 j ∧ ∃ x, x < 256 ∧ σ.1 121 j = nI x
def LI (σ : Sg) : Prop := ∀ l, l < 3 → ((σ.1 112 l = -11 ∧ σ.1 126 l = -1) ∨ ∃ s, s ≤ 40 ∧ σ.1 112 l = nI s ∧ σ.1 126 l = nI s) ∧ ∀ i, i < 40 → σ.1 (108 + 1 + l) i = σ.1 127 (40 * l + i)
def RF (σ : Sg) : Prop := ∀ k, 1 ≤ k → k ≤ 6 → σ.1 116 k = σ.1 120 k
/-- a row of the ring, and a step of the reference's -/
def HE (q : Nat) (σ : Sg) (i j : Nat) : Prop := ∃ k, k < q ∧ σ.1 (30 + 1 + i) 1 = nI k ∧ ((σ.1 (30 + 1 + i) 0 = 0 ∧ ∃ u, u < 5 ∧ σ.1 (30 + 1 + i) 2 = nI u ∧ tv (σ.1 122 (5 * j + 1)) ∧ σ.1 122 (5 * j) = nI (9 + 5 * k + u) ∧ σ.1 (30 + 1 + i) 3 = σ.1 122 (5 * j + 1) ∧ σ.1 122 (5 * j + 2) = -1) ∨ (σ.1 (30 + 1 + i) 0 = 1 ∧ ∃ κ, κ < 6 ∧ σ.1 (30 + 1 + i) 2 = nI κ ∧ σ.1 122 (5 * j) = nI (1 + k) ∧ σ.1 122 (5 * j + 1) = nI κ ∧ σ.1 122 (5 * j + 2) = -1) ∨ (σ.1 (30 + 1 + i) 0 = 2 ∧ SC (σ.1 (30 + 1 + i) 2) (σ.1 (30 + 1 + i) 3) (σ.1 122 (5 * j + 1)) (σ.1 122 (5 * j + 3)) ∧ σ.1 122 (5 * j) = nI (49 + k) ∧ σ.1 122 (5 * j + 2) = nI (57 + k)))
def HR (q : Nat) (σ : Sg) : Prop := ∃ h nx, h ≤ 20 ∧ nx < 20 ∧ σ.1 29 1 = nI nx ∧ σ.1 29 2 = nI h ∧ σ.1 117 7 = nI h ∧ ∀ j, j < h → HE q σ ((nx + 20 - h + j) % 20) j
def VV (n q ver : Nat) (σ : Sg) : Prop := n ≤ 512 ∧ ver ≤ n ∧ q ≤ 8 ∧ MR 1 118 q σ ∧ IM σ ∧ LR σ ∧ LI σ ∧ RF σ ∧ HR q σ ∧ SP q σ ∧ σ.1 51 1 = nI ver ∧ CCh q ver σ ∧ CSe q ver σ
def VI (n : Nat) (σ : Sg) : Prop := ∃ q ver, VV n q ver σ
/-! the cells that count between calls -/
def kp (c : Nat) : Prop := c ≤ 70 ∨ c = 80 ∨ c = 81 ∨ c = 104 ∨ (107 ≤ c ∧ c ≤ 112) ∨ c = 116 ∨ (118 ≤ c ∧ c ≤ 122) ∨ c = 126 ∨ c = 127
def Kp (σ σ' : Sg) : Prop := (∀ c, kp c → σ'.1 c = σ.1 c ∧ σ'.2 c = σ.2 c) ∧ σ'.1 117 2 = σ.1 117 2 ∧ σ'.1 117 5 = σ.1 117 5 ∧ σ'.1 117 7 = σ.1 117 7
theorem Kp_refl (σ : Sg) : Kp σ σ := ⟨fun _ _ => ⟨rfl, rfl⟩, rfl, rfl, rfl⟩
theorem Kp_trans {a b c : Sg} (h : Kp a b) (g : Kp b c) : Kp a c := ⟨fun x hx => ⟨((g.1 x hx).1).trans ((h.1 x hx).1), ((g.1 x hx).2).trans ((h.1 x hx).2)⟩, g.2.1.trans h.2.1, g.2.2.1.trans h.2.2.1, g.2.2.2.trans h.2.2.2⟩
/-- only these cells may have changed -/
def FR (S : List Nat) (σ σ' : Sg) : Prop := ∀ c, S.contains c = false → σ'.1 c = σ.1 c ∧ σ'.2 c = σ.2 c
theorem FR_refl (S : List Nat) (σ : Sg) : FR S σ σ := fun _ _ => ⟨rfl, rfl⟩
theorem FR_trans {S : List Nat} {a b c : Sg} (h : FR S a b) (g : FR S b c) : FR S a c := fun x hx => ⟨((g x hx).1).trans ((h x hx).1), ((g x hx).2).trans ((h x hx).2)⟩
theorem FR_mono {S T : List Nat} {a b : Sg} (hS : S.all (fun x => T.contains x) = true) (h : FR S a b) : FR T a b := by
  intro c hc
  apply h
  cases hq : S.contains c
  · rfl
  · have h1 : c ∈ S := by simpa using hq
    have h2 := List.all_eq_true.mp hS c h1
    rw [h2] at hc; exact absurd hc (by decide)
theorem FR_si {S : List Nat} {σ σ' : Sg} (h : FR S σ σ') {c j : Nat} {x : Int32} (hc : S.contains c = true) : FR S σ (si σ' c j x) := by
  intro c' hc'
  have : c' ≠ c := fun e => by rw [e, hc] at hc'; exact absurd hc' (by decide)
  rw [si_c this, si_l]; exact h c' hc'
theorem FR_sl {S : List Nat} {σ σ' : Sg} (h : FR S σ σ') {c j : Nat} {x : Int64} (hc : S.contains c = true) : FR S σ (sl σ' c j x) := by
  intro c' hc'
  have : c' ≠ c := fun e => by rw [e, hc] at hc'; exact absurd hc' (by decide)
  rw [sl_c this, sl_i]; exact h c' hc'
theorem FR_sc {S : List Nat} {σ σ' : Sg} (h : FR S σ σ') {c0 c sp dp n : Nat} (hc : S.contains c = true) : FR S σ (scp σ' c0 c sp dp n) := by
  intro c' hc'
  have : c' ≠ c := fun e => by rw [e, hc] at hc'; exact absurd hc' (by decide)
  rw [sc_c this, sc_l]; exact h c' hc'
theorem FR_i {S : List Nat} {σ σ' : Sg} (h : FR S σ σ') {c : Nat} (hc : S.contains c = false) : σ'.1 c = σ.1 c := (h c hc).1
theorem FR_l {S : List Nat} {σ σ' : Sg} (h : FR S σ σ') {c : Nat} (hc : S.contains c = false) : σ'.2 c = σ.2 c := (h c hc).2
/-- the cells of one's own work -/
def SCR : List Nat := [71, 72, 73, 74, 75, 76, 77, 78, 79, 82, 83, 84, 85, 86, 87, 88, 89, 90, 91, 92, 93, 94, 95, 96, 97, 98, 99, 100, 101, 102, 103, 105, 106, 113, 114, 115, 123, 124, 125, 128, 129, 130, 131, 132, 133, 134]
theorem kp_scr {c : Nat} (h : kp c) : SCR.contains c = false := by
  cases hq : SCR.contains c
  · rfl
  · have h1 : c ∈ SCR := by simpa using hq
    unfold kp at h
    unfold SCR at h1
    simp only [List.mem_cons, List.not_mem_nil, or_false] at h1
    omega
theorem Kp_FR {σ σ' : Sg} (h : FR SCR σ σ') : Kp σ σ' := ⟨fun c hc => h c (kp_scr hc), by rw [FR_i h (c := 117) (by decide)], by rw [FR_i h (c := 117) (by decide)], by rw [FR_i h (c := 117) (by decide)]⟩
theorem K_i {σ σ' : Sg} (h : Kp σ σ') {c : Nat} (hc : kp c) (j : Nat) : σ'.1 c j = σ.1 c j := by rw [(h.1 c hc).1]
theorem K_l {σ σ' : Sg} (h : Kp σ σ') {c : Nat} (hc : kp c) (j : Nat) : σ'.2 c j = σ.2 c j := by rw [(h.1 c hc).2]
/-! the same model stands in other stores too -/
theorem FM_fr {b g q : Nat} {σ σ' : Sg} (h : FM b g q σ) (h1 : σ'.1 b = σ.1 b) (h2 : σ'.1 g = σ.1 g) (h3 : σ'.1 (b + 13) = σ.1 (b + 13)) : FM b g q σ' := by
  unfold FM at *
  rw [h1, h2, h3]; exact h
theorem MR_fr {b g q : Nat} {σ σ' : Sg} (hq : q ≤ 8) (h : MR b g q σ) (h2 : σ'.1 g = σ.1 g) (h1 : ∀ c, b ≤ c → c ≤ b + 13 → σ'.1 c = σ.1 c) : MR b g q σ' := by
  obtain ⟨a1, a2, a3, a4, a5, a6⟩ := h
  refine ⟨by rw [h1 b (by omega) (by omega)]; exact a1, by rw [h2]; exact a2, ?_, ?_, ?_, FM_fr a6 (h1 b (by omega) (by omega)) h2 (h1 _ (by omega) (by omega))⟩
  · intro k hk
    rw [h1 (b + 1) (by omega) (by omega), h2]; exact a3 k hk
  · intro k u hk hu
    rw [h1 (b + 2 + 1 + k) (by omega) (by omega), h2]; exact a4 k u hk hu
  · intro k hk
    rw [h1 (b + 11) (by omega) (by omega), h1 (b + 12) (by omega) (by omega), h2]; exact a5 k hk
theorem dm_fr {σ σ' : Sg} (h2 : σ'.1 118 = σ.1 118) : dm σ' = dm σ := by
  funext k u; unfold dm; rw [h2]
theorem mA_fr {σ σ' : Sg} (h2 : σ'.1 118 = σ.1 118) : mA σ' = mA σ := by
  funext k u; unfold mA; rw [dm_fr h2]
theorem EL_fr {o t w q : Nat} {s : ET} {σ σ' : Sg} (h : EL o t w q s σ) (h1 : σ'.1 o = σ.1 o) (h2 : σ'.2 o = σ.2 o) (h3 : ∀ r, r < 5 → σ'.2 (t + 1 + r) = σ.2 (t + 1 + r)) (h4 : σ'.1 w = σ.1 w) : EL o t w q s σ' := by
  obtain ⟨a1, a2, a3, a4, a5, a6⟩ := h
  refine ⟨by rw [h1]; exact a1, by rw [h1]; exact a2, by rw [h1]; exact a3, by rw [h2]; exact a4, ?_, by rw [h4]; exact a6⟩
  intro r c hr hc
  rw [h3 r hr]; exact a5 r c hr hc
theorem SP_fr {q : Nat} {σ σ' : Sg} (hq : q ≤ 8) (h : SP q σ) (h2 : σ'.1 118 = σ.1 118) (h1 : ∀ c, 51 ≤ c → c ≤ 69 → σ'.1 c = σ.1 c ∧ σ'.2 c = σ.2 c) : SP q σ' := by
  obtain ⟨a1, a2, a3, a4⟩ := h
  unfold SP
  rw [dm_fr h2, mA_fr h2]
  refine ⟨by rw [(h1 51 (by omega) (by omega)).1]; exact a1, ?_, by rw [(h1 61 (by omega) (by omega)).2]; exact a3, EL_fr a4 (h1 _ (by omega) (by omega)).1 (h1 _ (by omega) (by omega)).2 (fun r hr => (h1 _ (by omega) (by omega)).2) (h1 _ (by omega) (by omega)).1⟩
  intro k u hk hu
  rw [(h1 (52 + 1 + k) (by omega) (by omega)).1]; exact a2 k u hk hu
theorem HR_fr {q : Nat} {σ σ' : Sg} (h : HR q σ) (h1 : ∀ c, 29 ≤ c → c ≤ 50 → σ'.1 c = σ.1 c) (h2 : σ'.1 122 = σ.1 122) (h3 : σ'.1 117 7 = σ.1 117 7) : HR q σ' := by
  obtain ⟨m, nx, a1, a2, a3, a4, a5, a6⟩ := h
  refine ⟨m, nx, a1, a2, by rw [h1 29 (by omega) (by omega)]; exact a3, by rw [h1 29 (by omega) (by omega)]; exact a4, by rw [h3]; exact a5, ?_⟩
  intro j hj
  unfold HE
  rw [h1 (30 + 1 + (nx + 20 - m + j) % 20) (by omega) (by omega), h2]
  exact a6 j hj
theorem LI_fr {σ σ' : Sg} (h : LI σ) (h1 : ∀ c, 109 ≤ c → c ≤ 112 → σ'.1 c = σ.1 c) (h2 : σ'.1 126 = σ.1 126) (h3 : σ'.1 127 = σ.1 127) : LI σ' := by
  intro l hl
  rw [h1 112 (by omega) (by omega), h1 (108 + 1 + l) (by omega) (by omega), h2, h3]
  exact h l hl
theorem IM_fr {σ σ' : Sg} (h : IM σ) (h0 : σ'.1 0 2 = σ.1 0 2) (h1 : ∀ c, 15 ≤ c → c ≤ 28 → σ'.1 c = σ.1 c) (h2 : σ'.1 119 = σ.1 119) (h3 : σ'.1 117 2 = σ.1 117 2) : IM σ' := by
  rcases h with ⟨a, b⟩ | ⟨a, b, q, hq, hm⟩
  · exact Or.inl ⟨h0.trans a, h3.trans b⟩
  · exact Or.inr ⟨h0.trans a, h3.trans b, q, hq, MR_fr hq hm h2 (fun c _ _ => h1 c (by omega) (by omega))⟩
theorem LR_fr {σ σ' : Sg} (h : LR σ) (h0 : σ'.1 0 9 = σ.1 0 9) (h1 : σ'.1 107 = σ.1 107) (h2 : σ'.1 121 = σ.1 121) (h3 : σ'.1 117 5 = σ.1 117 5) : LR σ' := by
  unfold LR at *
  rw [h0, h1, h2, h3]; exact h
theorem RF_fr {σ σ' : Sg} (h : RF σ) (h1 : σ'.1 116 = σ.1 116) (h2 : σ'.1 120 = σ.1 120) : RF σ' := by
  unfold RF at *
  rw [h1, h2]; exact h
theorem LKQ_fr {ρ : Sg} {q : Nat} {σ σ' : Sg} (h : LKQ ρ q σ) (h1 : σ'.1 70 = σ.1 70) : LKQ ρ q σ' := by
  unfold LKQ at *
  rw [h1]; exact h
theorem LSP_fr {ρ : Sg} {q : Nat} {σ σ' : Sg} (h : LSP ρ q σ) (h1 : σ'.1 80 = σ.1 80) (h3 : σ'.1 81 = σ.1 81) : LSP ρ q σ' := by
  unfold LSP at *
  rw [h1, h3]; exact h
theorem CCh_cg {q ver : Nat} {σ σ' : Sg} (h : CCh q ver σ) (h1 : σ'.1 70 = σ.1 70) (hd : ∀ k u, k < q → u < 5 → dm σ' k u = dm σ k u) : CCh q ver σ' := by
  rcases h with h | ⟨w, a, b, c⟩
  · exact Or.inl (by rw [h1]; exact h)
  · refine Or.inr ⟨w, a, by rw [h1]; exact b, fun e => ?_⟩
    obtain ⟨ρ, d, l⟩ := c e
    exact ⟨ρ, fun k u hk hu => (d k u hk hu).trans (hd k u hk hu).symm, LKQ_fr l h1⟩
theorem CSe_cg {q ver : Nat} {σ σ' : Sg} (h : CSe q ver σ) (h1 : σ'.1 80 = σ.1 80) (h3 : σ'.1 81 = σ.1 81) (h4 : σ'.1 104 = σ.1 104) (hd : ∀ k u, k < q → u < 5 → dm σ' k u = dm σ k u) : CSe q ver σ' := by
  obtain ⟨h0, h⟩ := h
  refine ⟨fun u hu => by rw [h4]; exact h0 u hu, ?_⟩
  rcases h with h | ⟨w, a, b, c⟩
  · exact Or.inl (by rw [h1]; exact h)
  · refine Or.inr ⟨w, a, by rw [h1]; exact b, fun e => ?_⟩
    obtain ⟨ρ, d, l⟩ := c e
    exact ⟨ρ, fun k u hk hu => (d k u hk hu).trans (hd k u hk hu).symm, LSP_fr l h1 h3⟩
theorem CCh_fr {q ver : Nat} {σ σ' : Sg} (h : CCh q ver σ) (h1 : σ'.1 70 = σ.1 70) (h2 : σ'.1 118 = σ.1 118) : CCh q ver σ' := CCh_cg h h1 (fun k u _ _ => by rw [dm_fr h2])
theorem CSe_fr {q ver : Nat} {σ σ' : Sg} (h : CSe q ver σ) (h1 : σ'.1 80 = σ.1 80) (h3 : σ'.1 81 = σ.1 81) (h4 : σ'.1 104 = σ.1 104) (h2 : σ'.1 118 = σ.1 118) : CSe q ver σ' := CSe_cg h h1 h3 h4 (fun k u _ _ => by rw [dm_fr h2])
theorem VV_kp {n q ver : Nat} {σ σ' : Sg} (h : VV n q ver σ) (k : Kp σ σ') : VV n q ver σ' := by
  obtain ⟨a1, a2, a3, a4, a5, a6, a7, a8, a9, a10, a11, a12, a13⟩ := h
  have e : ∀ c, kp c → σ'.1 c = σ.1 c := fun c hc => (k.1 c hc).1
  have e2 : ∀ c, kp c → σ'.2 c = σ.2 c := fun c hc => (k.1 c hc).2
  have e' : ∀ c, c ≤ 70 → σ'.1 c = σ.1 c := fun c hc => e c (Or.inl hc)
  have e118 := e 118 (by unfold kp; omega)
  exact ⟨a1, a2, a3, MR_fr a3 a4 e118 (fun c _ _ => e' c (by omega)), IM_fr a5 (by rw [e' 0 (by omega)]) (fun c _ _ => e' c (by omega)) (e 119 (by unfold kp; omega)) k.2.1, LR_fr a6 (by rw [e' 0 (by omega)]) (e 107 (by unfold kp; omega)) (e 121 (by unfold kp; omega)) k.2.2.1, LI_fr a7 (fun c _ _ => e c (by unfold kp; omega)) (e 126 (by unfold kp; omega)) (e 127 (by unfold kp; omega)), RF_fr a8 (e 116 (by unfold kp; omega)) (e 120 (by unfold kp; omega)), HR_fr a9 (fun c _ _ => e' c (by omega)) (e 122 (by unfold kp; omega)) k.2.2.2, SP_fr a3 a10 e118 (fun c _ _ => ⟨e' c (by omega), e2 c (by unfold kp; omega)⟩), by rw [e' 51 (by omega)]; exact a11, CCh_fr a12 (e' 70 (by omega)) e118, CSe_fr a13 (e 80 (by unfold kp; omega)) (e 81 (by unfold kp; omega)) (e 104 (by unfold kp; omega)) e118⟩
theorem VV_up {n q ver : Nat} {σ : Sg} (hn : n < 512) (h : VV n q ver σ) : VV (n + 1) q ver σ := ⟨by omega, by have := h.2.1; omega, h.2.2⟩
theorem VI_up {n : Nat} {σ : Sg} (hn : n < 512) (h : VI n σ) : VI (n + 1) σ := by
  obtain ⟨q, v, h⟩ := h; exact ⟨q, v, VV_up hn h⟩
