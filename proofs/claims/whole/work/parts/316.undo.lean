/-! ===== PURE: undo ===== -/
/-- the reference takes back: a step with one place -/
theorem mundo1 {h a : Nat} {x : Int32} {σ : Sg} (hh : h < 20) (h7 : σ.1 117 7 = nI (h + 1)) (ha : a < 139) (s0 : σ.1 122 (5 * h) = nI a) (s1 : σ.1 122 (5 * h + 1) = x) (s2 : σ.1 122 (5 * h + 2) = -1) : m_undo_117 σ = some (nI h, si (si σ 117 7 (nI h)) 118 a x) := by
  have e1 : nI (h + 1) - 1 = nI h := nI_pred h
  have x1 : nI (5 * h) + 1 = nI (5 * h + 1) := by rw [nI_1]
  have x2 : nI (5 * h) + 2 = nI (5 * h + 2) := by rw [show (2 : Int32) = nI 2 from rfl, nI_add]
  unfold m_undo_117 m_undo_117_b81
  rw [h7, if_neg (show ¬ nI (h + 1) = 0 from fun w => by have := (nI_eq (b := 0) (by omega) (by omega)).mp w; omega), e1]
  simp only [si_e, i5, x1, x2, si_c (show (122 : Nat) ≠ 117 by decide), si_c (show (122 : Nat) ≠ 118 by decide), si_c (show (117 : Nat) ≠ 118 by decide)]
  rw [cl_n (show 5 * h < 2 ^ 31 by omega), cl_n (show 5 * h + 1 < 2 ^ 31 by omega), cl_n (show 5 * h + 2 < 2 ^ 31 by omega), inB_t (show 5 * h < 100 by omega) (by omega), inB_t (show 5 * h + 1 < 100 by omega) (by omega), inB_t (show 5 * h + 2 < 100 by omega) (by omega), s0, s1, s2, inB_t ha (by omega), cl_n (show a < 2 ^ 31 by omega), gd_t, gd_t, gd_t, gd_t, if_pos (by decide)]
/-- a step with two places -/
theorem mundo2 {h a b : Nat} {x y : Int32} {σ : Sg} (hh : h < 20) (h7 : σ.1 117 7 = nI (h + 1)) (ha : a < 139) (hb : b < 139) (s0 : σ.1 122 (5 * h) = nI a) (s1 : σ.1 122 (5 * h + 1) = x) (s2 : σ.1 122 (5 * h + 2) = nI b) (s3 : σ.1 122 (5 * h + 3) = y) : m_undo_117 σ = some (nI h, si (si (si σ 117 7 (nI h)) 118 a x) 118 b y) := by
  have e1 : nI (h + 1) - 1 = nI h := nI_pred h
  have x1 : nI (5 * h) + 1 = nI (5 * h + 1) := by rw [nI_1]
  have x2 : nI (5 * h) + 2 = nI (5 * h + 2) := by rw [show (2 : Int32) = nI 2 from rfl, nI_add]
  have x3 : nI (5 * h) + 3 = nI (5 * h + 3) := by rw [show (3 : Int32) = nI 3 from rfl, nI_add]
  unfold m_undo_117 m_undo_117_b81
  rw [h7, if_neg (show ¬ nI (h + 1) = 0 from fun w => by have := (nI_eq (b := 0) (by omega) (by omega)).mp w; omega), e1]
  simp only [si_e, i5, x1, x2, x3, si_c (show (122 : Nat) ≠ 117 by decide), si_c (show (122 : Nat) ≠ 118 by decide), si_c (show (117 : Nat) ≠ 118 by decide)]
  rw [cl_n (show 5 * h < 2 ^ 31 by omega), cl_n (show 5 * h + 1 < 2 ^ 31 by omega), cl_n (show 5 * h + 2 < 2 ^ 31 by omega), cl_n (show 5 * h + 3 < 2 ^ 31 by omega), inB_t (show 5 * h < 100 by omega) (by omega), inB_t (show 5 * h + 1 < 100 by omega) (by omega), inB_t (show 5 * h + 2 < 100 by omega) (by omega), inB_t (show 5 * h + 3 < 100 by omega) (by omega), s0, s1, s2, s3, inB_t ha (by omega), inB_t hb (by omega), cl_n (show a < 2 ^ 31 by omega), cl_n (show b < 2 ^ 31 by omega), gd_t, gd_t, gd_t, gd_t, gd_t, gd_t, gd_t, if_neg (nI_pos (by omega))]
theorem hc4 : ∀ p, p < 20 → ∀ j, j < 4 → arB 0 (30 + 1 + p) (nI j) = true := fun p hp j hj => ar_hist hp hj
/-- the ring with its latest row taken off -/
def tkb (σ : Sg) (p h : Nat) : Sg := si (si σ 29 1 (nI p)) 29 2 (nI h)
theorem jtb0 {nx h k u : Nat} {σ : Sg} (hnx : nx < 20) (hh : h < 20) (h1 : σ.1 29 1 = nI nx) (h2 : σ.1 29 2 = nI (h + 1)) (hk : k < 8) (hu : u < 5) (r0 : σ.1 (30 + 1 + (nx + 19) % 20) 0 = 0) (r1 : σ.1 (30 + 1 + (nx + 19) % 20) 1 = nI k) (r2 : σ.1 (30 + 1 + (nx + 19) % 20) 2 = nI u) : j_takeBack_29_1 σ = some ((), si (tkb σ ((nx + 19) % 20) h) (3 + 1 + k) u (σ.1 (30 + 1 + (nx + 19) % 20) 3)) := by
  have hp : (nx + 19) % 20 < 20 := Nat.mod_lt _ (by omega)
  unfold j_takeBack_29_1 j_takeBack_29_1_b103
  rw [h1, (ring_irm nx hnx).2, si_j (show 2 ≠ 1 by decide), h2, (ring_imin (h + 1) (by omega)).2, show h + 1 - 1 = h by omega]
  generalize hτ : si (si σ 29 1 (nI ((nx + 19) % 20))) 29 2 (nI h) = τ
  have t1 : τ.1 29 1 = nI ((nx + 19) % 20) := by rw [← hτ, si_j (by omega), si_e]
  have tc : ∀ c, c ≠ 29 → τ.1 c = σ.1 c := fun c hc => by rw [← hτ, si_c hc, si_c hc]
  rw [t1, cl_n (by omega), inB_t hp (by omega), show arB 0 (30 + 1 + (nx + 19) % 20) 1 = true from hc4 _ hp 1 (by omega), show arB 0 (30 + 1 + (nx + 19) % 20) 0 = true from hc4 _ hp 0 (by omega), tc _ (by omega), r0, if_pos rfl, r1, r2, show arB 0 (30 + 1 + (nx + 19) % 20) 2 = true from hc4 _ hp 2 (by omega), show arB 0 (30 + 1 + (nx + 19) % 20) 3 = true from hc4 _ hp 3 (by omega), inB_t hk (by omega), cl_n (by omega), ar_told hk hu, cl_n (by omega), gd_t, gd_t, gd_t, gd_t, gd_t, gd_t, gd_t, ← hτ]
  rfl
theorem jtb1 {nx h k : Nat} {σ : Sg} (hnx : nx < 20) (hh : h < 20) (h1 : σ.1 29 1 = nI nx) (h2 : σ.1 29 2 = nI (h + 1)) (hk : k < 8) (r0 : σ.1 (30 + 1 + (nx + 19) % 20) 0 = 1) (r1 : σ.1 (30 + 1 + (nx + 19) % 20) 1 = nI k) : j_takeBack_29_1 σ = some ((), si (tkb σ ((nx + 19) % 20) h) 2 k (σ.1 (30 + 1 + (nx + 19) % 20) 2)) := by
  have hp : (nx + 19) % 20 < 20 := Nat.mod_lt _ (by omega)
  unfold j_takeBack_29_1 j_takeBack_29_1_b103
  rw [h1, (ring_irm nx hnx).2, si_j (show 2 ≠ 1 by decide), h2, (ring_imin (h + 1) (by omega)).2, show h + 1 - 1 = h by omega]
  generalize hτ : si (si σ 29 1 (nI ((nx + 19) % 20))) 29 2 (nI h) = τ
  have t1 : τ.1 29 1 = nI ((nx + 19) % 20) := by rw [← hτ, si_j (by omega), si_e]
  have tc : ∀ c, c ≠ 29 → τ.1 c = σ.1 c := fun c hc => by rw [← hτ, si_c hc, si_c hc]
  rw [t1, cl_n (by omega), inB_t hp (by omega), show arB 0 (30 + 1 + (nx + 19) % 20) 1 = true from hc4 _ hp 1 (by omega), show arB 0 (30 + 1 + (nx + 19) % 20) 0 = true from hc4 _ hp 0 (by omega), tc _ (by omega), r0, if_neg (show ¬ (1 : Int32) = 0 by decide), if_pos rfl, r1, show arB 0 (30 + 1 + (nx + 19) % 20) 2 = true from hc4 _ hp 2 (by omega), inB_t hk (by omega), cl_n (by omega), gd_t, gd_t, gd_t, gd_t, gd_t, gd_t, ← hτ]
  rfl
theorem jtb2 {nx h k : Nat} {σ : Sg} (hnx : nx < 20) (hh : h < 20) (h1 : σ.1 29 1 = nI nx) (h2 : σ.1 29 2 = nI (h + 1)) (hk : k < 8) (r0 : σ.1 (30 + 1 + (nx + 19) % 20) 0 = 2) (r1 : σ.1 (30 + 1 + (nx + 19) % 20) 1 = nI k) : j_takeBack_29_1 σ = some ((), si (si (tkb σ ((nx + 19) % 20) h) 12 k (σ.1 (30 + 1 + (nx + 19) % 20) 2)) 13 k (σ.1 (30 + 1 + (nx + 19) % 20) 3)) := by
  have hp : (nx + 19) % 20 < 20 := Nat.mod_lt _ (by omega)
  unfold j_takeBack_29_1 j_takeBack_29_1_b103
  rw [h1, (ring_irm nx hnx).2, si_j (show 2 ≠ 1 by decide), h2, (ring_imin (h + 1) (by omega)).2, show h + 1 - 1 = h by omega]
  generalize hτ : si (si σ 29 1 (nI ((nx + 19) % 20))) 29 2 (nI h) = τ
  have t1 : τ.1 29 1 = nI ((nx + 19) % 20) := by rw [← hτ, si_j (by omega), si_e]
  have tc : ∀ c, c ≠ 29 → τ.1 c = σ.1 c := fun c hc => by rw [← hτ, si_c hc, si_c hc]
  rw [t1, cl_n (by omega), inB_t hp (by omega), show arB 0 (30 + 1 + (nx + 19) % 20) 1 = true from hc4 _ hp 1 (by omega), show arB 0 (30 + 1 + (nx + 19) % 20) 0 = true from hc4 _ hp 0 (by omega), tc _ (by omega), r0, if_neg (show ¬ (2 : Int32) = 0 by decide), if_neg (show ¬ (2 : Int32) = 1 by decide), r1, show arB 0 (30 + 1 + (nx + 19) % 20) 2 = true from hc4 _ hp 2 (by omega), show arB 0 (30 + 1 + (nx + 19) % 20) 3 = true from hc4 _ hp 3 (by omega), inB_t hk (by omega), cl_n (by omega), gd_t, gd_t, gd_t, gd_t, gd_t, gd_t, gd_t, gd_t, si_c (show 30 + 1 + (nx + 19) % 20 ≠ 12 by omega), tc _ (by omega), ← hτ]
  rfl
