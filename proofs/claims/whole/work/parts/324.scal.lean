/-! ===== PURE: powers of a prime in a scale; primes ===== -/
theorem nI_div {v p : Nat} (hv : v < 2 ^ 31) (hp0 : 0 < p) (hp : p < 2 ^ 31) : nI v / nI p = nI (v / p) := by
  apply Int32.toInt_inj.mp
  have hle : v / p ≤ v := Nat.div_le_self _ _
  rw [Int32.toInt_div, nI_toInt hv, nI_toInt hp, nI_toInt (by omega)]
  have : ((v : Int).tdiv (p : Int)) = ((v / p : Nat) : Int) := (Int.ofNat_tdiv v p).symm
  rw [this]
  generalize v / p = w at hle
  exact bm32 (by omega) (by omega)
theorem nI_rem {v p : Nat} (hv : v < 2 ^ 31) (hp0 : 0 < p) (hp : p < 2 ^ 31) : irm (nI v) (nI p) = nI (v % p) := by
  unfold irm
  have h1 := Nat.div_mul_le_self v p
  rw [nI_div hv hp0 hp, nI_mul, nI_sub h1]
  congr 1
  have := Nat.mod_add_div v p
  rw [Nat.mul_comm] at this
  omega
/-- how often a number has a divisor -/
def tmz (p : Nat) : Nat → Nat → Nat
  | 0, _ => 0
  | n + 1, v => if v = 0 then 0 else if v % p = 0 then tmz p n (v / p) + 1 else 0
theorem tmz_le (p : Nat) : ∀ n v, tmz p n v ≤ n
  | 0, v => Nat.le_refl _
  | n + 1, v => by
    have := tmz_le p n (v / p)
    unfold tmz
    split
    · omega
    · split <;> omega
theorem jtimes_l {p : Nat} (hp2 : 2 ≤ p) (hp : p ≤ 97) (σ : Sg) : ∀ n v c s m, v < 2 ^ n → n ≤ 7 → s + n ≤ 98 → n < m → c + n < 100 → j_times_s_L7 m (nI p) (nI c) (nI v) (nI s) σ = some (nI (c + tmz p n v), σ)
  | 0, v, c, s, m, hv, hn, hs, hm, hc => by
    obtain ⟨m, rfl⟩ : ∃ k, m = k + 1 := ⟨m - 1, by omega⟩
    have hv0 : v = 0 := by have : (2 : Nat) ^ 0 = 1 := rfl; omega
    subst hv0
    show j_times_s_H7 (j_times_s_L7 m) (nI p) (nI c) (nI 0) (nI s) σ = _
    unfold j_times_s_H7 j_times_s_b42
    rw [if_neg (show ¬ (99 : Int32) ≤ nI s from nI_ge (b := 99) (by omega) (by decide)), if_pos (show nI 0 ≤ 0 by decide)]; rfl
  | n + 1, v, c, s, m, hv, hn, hs, hm, hc => by
    obtain ⟨m, rfl⟩ : ∃ k, m = k + 1 := ⟨m - 1, by omega⟩
    have h128 : 2 ^ (n + 1) ≤ 128 := by have := pw_le (show n + 1 ≤ 7 by omega); omega
    show j_times_s_H7 (j_times_s_L7 m) (nI p) (nI c) (nI v) (nI s) σ = _
    unfold j_times_s_H7 j_times_s_b42
    rw [if_neg (show ¬ (99 : Int32) ≤ nI s from nI_ge (b := 99) (by omega) (by decide))]
    by_cases h0 : v = 0
    · subst h0
      rw [if_pos (show nI 0 ≤ 0 by decide)]
      unfold tmz; rw [if_pos rfl]; rfl
    · rw [if_neg (show ¬ nI v ≤ 0 from nI_ge (b := v) (a := 0) (by omega) (by omega)), if_neg (show ¬ nI p ≤ 1 from nI_ge (b := p) (a := 1) (by omega) (by omega)), nI_rem (by omega) (by omega) (by omega), nI_div (by omega) (by omega) (by omega), nI_1, nI_1]
      have hne : neB (nI p) = true := by
        have : ¬ nI p = 0 := fun w => by have := (nI_eq (b := 0) (by omega) (by omega)).mp w; omega
        simp [neB, this]
      rw [hne, gd_t, gd_t]
      have hlt : v % p < 2 ^ 31 := by have := Nat.mod_lt v (show 0 < p by omega); omega
      unfold tmz
      rw [if_neg h0]
      by_cases g : v % p = 0
      · have hd : v / p < 2 ^ n := by
          have h2 : 2 ^ (n + 1) = 2 * 2 ^ n := by rw [Nat.pow_succ]; omega
          refine Nat.div_lt_of_lt_mul ?_
          have : 2 * 2 ^ n ≤ p * 2 ^ n := Nat.mul_le_mul_right _ hp2
          omega
        rw [if_pos (show nI (v % p) = 0 by rw [g]; rfl), if_pos g, jtimes_l hp2 hp σ n (v / p) (c + 1) (s + 1) m hd (by omega) (by omega) (by omega) (by omega), show c + 1 + tmz p n (v / p) = c + (tmz p n (v / p) + 1) by omega]
      · rw [if_neg (show ¬ nI (v % p) = 0 from fun w => g ((nI_eq (b := 0) (by omega) (by omega)).mp w)), if_neg g]; rfl
theorem moften_l {p : Nat} (hp2 : 2 ≤ p) (hp : p ≤ 97) (σ : Sg) : ∀ n v c m, v < 2 ^ n → n ≤ 7 → n < m → c + n < 100 → m_often_s_L4 m (nI p) (nI c) (nI v) σ = some (nI (c + tmz p n v), σ)
  | 0, v, c, m, hv, hn, hm, hc => by
    obtain ⟨m, rfl⟩ : ∃ k, m = k + 1 := ⟨m - 1, by omega⟩
    have hv0 : v = 0 := by have : (2 : Nat) ^ 0 = 1 := rfl; omega
    subst hv0
    show m_often_s_H4 (m_often_s_L4 m) (nI p) (nI c) (nI 0) σ = _
    unfold m_often_s_H4 m_often_s_b24
    rw [if_pos (show nI 0 ≤ 0 by decide)]; rfl
  | n + 1, v, c, m, hv, hn, hm, hc => by
    obtain ⟨m, rfl⟩ : ∃ k, m = k + 1 := ⟨m - 1, by omega⟩
    have h128 : 2 ^ (n + 1) ≤ 128 := by have := pw_le (show n + 1 ≤ 7 by omega); omega
    show m_often_s_H4 (m_often_s_L4 m) (nI p) (nI c) (nI v) σ = _
    unfold m_often_s_H4 m_often_s_b24
    by_cases h0 : v = 0
    · subst h0
      rw [if_pos (show nI 0 ≤ 0 by decide)]
      unfold tmz; rw [if_pos rfl]; rfl
    · rw [if_neg (show ¬ nI v ≤ 0 from nI_ge (b := v) (a := 0) (by omega) (by omega)), nI_rem (by omega) (by omega) (by omega), nI_div (by omega) (by omega) (by omega), nI_1]
      have hne : neB (nI p) = true := by
        have : ¬ nI p = 0 := fun w => by have := (nI_eq (b := 0) (by omega) (by omega)).mp w; omega
        simp [neB, this]
      rw [hne, gd_t, gd_t]
      have hlt : v % p < 2 ^ 31 := by have := Nat.mod_lt v (show 0 < p by omega); omega
      unfold tmz
      rw [if_neg h0]
      by_cases g : v % p = 0
      · have hd : v / p < 2 ^ n := by
          have h2 : 2 ^ (n + 1) = 2 * 2 ^ n := by rw [Nat.pow_succ]; omega
          refine Nat.div_lt_of_lt_mul ?_
          have : 2 * 2 ^ n ≤ p * 2 ^ n := Nat.mul_le_mul_right _ hp2
          omega
        rw [if_pos (show nI (v % p) = 0 by rw [g]; rfl), if_pos g, moften_l hp2 hp σ n (v / p) (c + 1) m hd (by omega) (by omega) (by omega), show c + 1 + tmz p n (v / p) = c + (tmz p n (v / p) + 1) by omega]
      · rw [if_neg (show ¬ nI (v % p) = 0 from fun w => g ((nI_eq (b := 0) (by omega) (by omega)).mp w)), if_neg g]; rfl
def tm (p v : Nat) : Nat := tmz p 7 v
theorem jtimes {p v : Nat} (hp2 : 2 ≤ p) (hp : p ≤ 97) (hv : v ≤ 99) (σ : Sg) : j_times_s (nI p) (nI v) σ = some (nI (tm p v), σ) := by
  unfold j_times_s
  refine (jtimes_l hp2 hp σ 7 v 0 0 fu (by omega) (by omega) (by omega) (by decide) (by omega)).trans ?_
  rw [Nat.zero_add]; rfl
theorem moften {p v : Nat} (hp2 : 2 ≤ p) (hp : p ≤ 97) (hv : v ≤ 99) (σ : Sg) : m_often_s (nI v) (nI p) σ = some (nI (tm p v), σ) := by
  unfold m_often_s
  refine (moften_l hp2 hp σ 7 v 0 fu (by omega) (by omega) (by decide) (by omega)).trans ?_
  rw [Nat.zero_add]; rfl
theorem tm_le (p v : Nat) : tm p v ≤ 7 := tmz_le p 7 v
/-! primes -/
def prn : List Nat := [2, 3, 5, 7, 11, 13, 17, 19, 23, 29, 31, 37, 41, 43, 47, 53, 59, 61, 67, 71, 73, 79, 83, 89, 97]
def prm (j : Nat) : Nat := prn.getD j 0
theorem sv_prm : ∀ j, j < 25 → sv 1004 j = nI (prm j) ∧ 2 ≤ prm j ∧ prm j ≤ 97 := by decide +kernel
def prB (n : Nat) : Bool := (ff (fun d => n % d == 0) (n - 2) 2).isNone
theorem prB_tab : ∀ n, n < 98 → 2 ≤ n → prB n = (ff (fun j => prm j == n) 25 0).isSome := by decide +kernel
theorem prB_ex {n : Nat} (h2 : 2 ≤ n) (h : n ≤ 97) (hb : prB n = true) : ∃ j, j < 25 ∧ prm j = n := by
  rw [prB_tab n (by omega) h2, Option.isSome_iff_exists] at hb
  obtain ⟨j, hj⟩ := hb
  obtain ⟨a1, a2, a3, _⟩ := ff_some hj
  exact ⟨j, by omega, by simpa using a3⟩
theorem prm_B : ∀ j, j < 25 → prB (prm j) = true := by decide +kernel
theorem mprime {n : Nat} (h2 : 2 ≤ n) (hn : n ≤ 97) (σ : Sg) : m_isPrime_s (nI n) σ = some (if prB n = true then 1 else 0, σ) := by
  have l2 : (2 : Int64) = (nI 2).toInt64 := by decide
  have l97 : (97 : Int64) = (nI 97).toInt64 := by decide
  unfold m_isPrime_s
  refine loopQ (fun m d (_ : Unit) => m_isPrime_s_L2 m (nI n) (nI d) σ) n (fun d _ => 2 ≤ d ∧ ff (fun d => n % d == 0) (n - 2) 2 = ff (fun d => n % d == 0) (n - d) d) (fun r => r = some (if prB n = true then 1 else 0, σ)) ?_ ?_ (n - 2) fu 2 () (by omega) (fu_lt (by omega)) ⟨Nat.le_refl _, rfl⟩
  · rintro m d _ hd ⟨hd2, g⟩
    obtain ⟨e, he⟩ : ∃ e, n - d = e + 1 := ⟨n - d - 1, by omega⟩
    rw [he] at g
    have hmlt := Nat.mod_lt n (show 0 < d by omega)
    have hne : neB (nI d) = true := by
      have : ¬ nI d = 0 := fun w => by have := (nI_eq (b := 0) (by omega) (by omega)).mp w; omega
      simp [neB, this]
    have st : m_isPrime_s_L2 (m + 1) (nI n) (nI d) σ = if n % d = 0 then some (0, σ) else m_isPrime_s_L2 m (nI n) (nI (d + 1)) σ := by
      show m_isPrime_s_H2 (m_isPrime_s_L2 m) (nI n) (nI d) σ = _
      unfold m_isPrime_s_H2
      rw [if_neg (nI_ge hd (by omega)), hne, gd_t, nI_rem (by omega) (by omega) (by omega), nI_1]
      by_cases g : n % d = 0
      · rw [if_pos (show nI (n % d) = 0 by rw [g]; rfl), if_pos g]
      · rw [if_neg (show ¬ nI (n % d) = 0 from fun w => g ((nI_eq (b := 0) (by omega) (by omega)).mp w)), if_neg g]
    rw [st]
    by_cases hz : n % d = 0
    · rw [ff_t (by simpa using hz)] at g
      rw [if_pos hz]
      right
      have : prB n = false := by unfold prB; rw [g]; rfl
      rw [this]; rfl
    · rw [ff_f (by simpa using hz)] at g
      rw [if_neg hz]
      exact Or.inl ⟨(), rfl, by omega, by rw [g, show n - (d + 1) = e by omega]⟩
  · rintro m _ ⟨hd2, g⟩
    rw [show n - n = 0 by omega] at g
    have hB : prB n = true := by unfold prB; rw [g]; rfl
    show m_isPrime_s_H2 (m_isPrime_s_L2 m) (nI n) (nI n) σ = _
    unfold m_isPrime_s_H2
    rw [if_pos (nI_le (by omega) (by omega)), l2, l97, isIn_in (a := 2) (b := 97) (by omega) (by omega) (by rw [nI_toInt (by omega)]; omega), bd_s, hB]; rfl
theorem jprime_in {n : Nat} (h2 : 2 ≤ n) (hn : n ≤ 97) (σ : Sg) : j_isPrime_s (nI n) σ = some (if prB n = true then 1 else 0, σ) := by
  unfold j_isPrime_s
  refine loopQ (fun m j (_ : Unit) => j_isPrime_s_L9 m (nI n) 25 (nI j) σ) 25 (fun j _ => ff (fun j => prm j == n) 25 0 = ff (fun j => prm j == n) (25 - j) j) (fun r => r = some (if prB n = true then 1 else 0, σ)) ?_ ?_ 25 fu 0 () (by omega) (by decide) rfl
  · rintro m j _ hj g
    obtain ⟨e, he⟩ : ∃ e, 25 - j = e + 1 := ⟨25 - j - 1, by omega⟩
    rw [he] at g
    obtain ⟨s1, s2, s3⟩ := sv_prm j hj
    have st : j_isPrime_s_L9 (m + 1) (nI n) 25 (nI j) σ = if prm j = n then some (1, σ) else j_isPrime_s_L9 m (nI n) 25 (nI (j + 1)) σ := by
      show j_isPrime_s_H9 (j_isPrime_s_L9 m) (nI n) 25 (nI j) σ = _
      unfold j_isPrime_s_H9
      rw [if_neg (show ¬ (25 : Int32) ≤ nI j from nI_ge (b := 25) hj (by decide)), inB_t hj (by omega), gd_t, cl_n (by omega), s1, nI_1]
      by_cases g : prm j = n
      · rw [if_pos (by rw [g]), if_pos g]
      · rw [if_neg (fun w => g ((nI_eq (by omega) (by omega)).mp w)), if_neg g]
    rw [st]
    by_cases hz : prm j = n
    · rw [ff_t (d := e) (p := j) (by simpa using hz)] at g
      rw [if_pos hz]
      right
      rw [prB_tab n (by omega) h2, g]; rfl
    · rw [ff_f (d := e) (p := j) (by simpa using hz)] at g
      rw [if_neg hz]
      exact Or.inl ⟨(), rfl, by rw [g, show 25 - (j + 1) = e by omega]⟩
  · rintro m _ g
    rw [show 25 - 25 = 0 by omega] at g
    show j_isPrime_s_H9 (j_isPrime_s_L9 m) (nI n) 25 (nI 25) σ = _
    unfold j_isPrime_s_H9
    rw [if_pos (show (25 : Int32) ≤ nI 25 by decide), prB_tab n (by omega) h2, g]; rfl
theorem jprime_out {v : Int32} (h : ¬ ((2 : Int) ≤ v.toInt ∧ v.toInt ≤ 97)) (σ : Sg) : j_isPrime_s v σ = some (0, σ) := by
  unfold j_isPrime_s
  refine loopE (L := fun m j (_ : Unit) => j_isPrime_s_L9 m v 25 (nI j) σ) (N := 25) (s := ()) (P := fun _ _ => True) (Q := fun r => r = some (0, σ)) ?_ ?_ (by decide) trivial
  · rintro m j _ hj _
    obtain ⟨s1, s2, s3⟩ := sv_prm j hj
    refine ⟨(), ?_, trivial⟩
    show j_isPrime_s_H9 (j_isPrime_s_L9 m) v 25 (nI j) σ = _
    unfold j_isPrime_s_H9
    rw [if_neg (show ¬ (25 : Int32) ≤ nI j from nI_ge (b := 25) hj (by decide)), inB_t hj (by omega), gd_t, cl_n (by omega), s1, nI_1, if_neg (fun w => h (by rw [← w, nI_toInt (by omega)]; omega))]
  · rintro m _ _
    show j_isPrime_s_H9 (j_isPrime_s_L9 m) v 25 (nI 25) σ = _
    unfold j_isPrime_s_H9
    rw [if_pos (show (25 : Int32) ≤ nI 25 by decide)]
