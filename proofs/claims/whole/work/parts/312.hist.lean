/-! ===== PURE: changes that can be UNDONE ===== -/
theorem CCh_up {q q' ver : Nat} {σ σ' : Sg} (h : CCh q ver σ) (h1 : σ'.1 70 = σ.1 70) : CCh q' (ver + 1) σ' := by
  rcases h with h | ⟨w, a, b, _⟩
  · exact Or.inl (by rw [h1]; exact h)
  · exact Or.inr ⟨w, by omega, by rw [h1]; exact b, fun e => absurd e (by omega)⟩
theorem CSe_up {q q' ver : Nat} {σ σ' : Sg} (h : CSe q ver σ) (h1 : σ'.1 80 = σ.1 80) (_h3 : σ'.1 81 = σ.1 81) (h4 : σ'.1 104 = σ.1 104) : CSe q' (ver + 1) σ' := by
  obtain ⟨h0, h⟩ := h
  refine ⟨fun u hu => by rw [h4]; exact h0 u hu, ?_⟩
  rcases h with h | ⟨w, a, b, _⟩
  · exact Or.inl (by rw [h1]; exact h)
  · exact Or.inr ⟨w, by omega, by rw [h1]; exact b, fun e => absurd e (by omega)⟩
theorem HE_tr {q i i' j j' : Nat} {σ σ' : Sg} (h : HE q σ i j) (h1 : ∀ t, t < 4 → σ'.1 (30 + 1 + i') t = σ.1 (30 + 1 + i) t) (h2 : ∀ t, t < 4 → σ'.1 122 (5 * j' + t) = σ.1 122 (5 * j + t)) : HE q σ' i' j' := by
  unfold HE at *
  have z : σ'.1 122 (5 * j') = σ.1 122 (5 * j) := h2 0 (by omega)
  rw [h1 0 (by omega), h1 1 (by omega), h1 2 (by omega), h1 3 (by omega), z, h2 1 (by omega), h2 2 (by omega), h2 3 (by omega)]
  exact h
def RPu (σ σ' : Sg) (nx h : Nat) (v0 v1 v2 v3 : Int32) : Prop := (∀ i, i < 20 → i ≠ nx → σ'.1 (30 + 1 + i) = σ.1 (30 + 1 + i)) ∧ σ'.1 (30 + 1 + nx) 0 = v0 ∧ σ'.1 (30 + 1 + nx) 1 = v1 ∧ σ'.1 (30 + 1 + nx) 2 = v2 ∧ σ'.1 (30 + 1 + nx) 3 = v3 ∧ σ'.1 29 1 = nI ((nx + 1) % 20) ∧ σ'.1 29 2 = nI (min (h + 1) 20)
def SPu (σ σ' : Sg) (h : Nat) (s0 s1 s2 s3 : Int32) : Prop := (∀ j, j < min h 19 → ∀ t, t < 5 → σ'.1 122 (5 * j + t) = σ.1 122 (5 * (if h < 20 then j else j + 1) + t)) ∧ σ'.1 122 (5 * min h 19) = s0 ∧ σ'.1 122 (5 * min h 19 + 1) = s1 ∧ σ'.1 122 (5 * min h 19 + 2) = s2 ∧ σ'.1 122 (5 * min h 19 + 3) = s3 ∧ σ'.1 117 7 = nI (min (h + 1) 20)
theorem HR_push {q nx h : Nat} {σ σ' : Sg} {v0 v1 v2 v3 s0 s1 s2 s3 : Int32} (hh : h ≤ 20) (hnx : nx < 20) (hE : ∀ j, j < h → HE q σ ((nx + 20 - h + j) % 20) j) (hR : RPu σ σ' nx h v0 v1 v2 v3) (hS : SPu σ σ' h s0 s1 s2 s3) (hN : HE q σ' nx (min h 19)) : HR q σ' := by
  obtain ⟨r1, r2, r3, r4, r5, r6, r7⟩ := hR
  obtain ⟨t1, t2, t3, t4, t5, t6⟩ := hS
  refine ⟨min (h + 1) 20, (nx + 1) % 20, by omega, Nat.mod_lt _ (by omega), r6, r7, t6, ?_⟩
  intro j hj
  by_cases e : j = min h 19
  · have : ((nx + 1) % 20 + 20 - min (h + 1) 20 + j) % 20 = nx := by omega
    rw [this, e]; exact hN
  · have hj2 : j < min h 19 := by omega
    have ho := hE (if h < 20 then j else j + 1) (by split <;> omega)
    have hi : (nx + 20 - h + (if h < 20 then j else j + 1)) % 20 = ((nx + 1) % 20 + 20 - min (h + 1) 20 + j) % 20 := by
      split <;> omega
    have hne : ((nx + 1) % 20 + 20 - min (h + 1) 20 + j) % 20 ≠ nx := by omega
    rw [hi] at ho
    refine HE_tr ho (fun t _ => ?_) (fun t ht => t1 j hj2 t (by omega))
    rw [r1 _ (Nat.mod_lt _ (by omega)) hne]
theorem ring_irm : ∀ k, k < 20 → irm (nI k + 1) 20 = nI ((k + 1) % 20) ∧ irm ((nI k + 20) - 1) 20 = nI ((k + 19) % 20) := by decide +kernel
theorem ring_imin : ∀ k, k < 21 → imin (nI k + 1) 20 = nI (min (k + 1) 20) ∧ imax (nI k - 1) 0 = nI (k - 1) := by decide +kernel
theorem ring_c : ∀ k, k < 20 → 30 + 1 + k ≠ 29 ∧ 30 + 1 + k ≠ 30 := by decide
theorem jnote {nx h : Nat} {σ : Sg} {v0 v1 v2 v3 : Int32} (hh : h ≤ 20) (hnx : nx < 20) (h1 : σ.1 29 1 = nI nx) (h2 : σ.1 29 2 = nI h) : ∃ σ', j_note_29 v0 v1 v2 v3 σ = some ((), σ') ∧ RPu σ σ' nx h v0 v1 v2 v3 ∧ (∀ c, c ≠ 29 → (c < 31 ∨ 50 < c) → σ'.1 c = σ.1 c) ∧ σ'.2 = σ.2 := by
  generalize hτ : si (si (si (si σ (30 + 1 + nx) 0 v0) (30 + 1 + nx) 1 v1) (30 + 1 + nx) 2 v2) (30 + 1 + nx) 3 v3 = τ
  have e1 : τ.1 29 1 = nI nx := by rw [← hτ, si_c (by omega), si_c (by omega), si_c (by omega), si_c (by omega)]; exact h1
  have e2 : τ.1 29 2 = nI h := by rw [← hτ, si_c (by omega), si_c (by omega), si_c (by omega), si_c (by omega)]; exact h2
  refine ⟨si (si τ 29 1 (nI ((nx + 1) % 20))) 29 2 (nI (min (h + 1) 20)), ?_, ⟨?_, ?_, ?_, ?_, ?_, ?_, ?_⟩, ?_, ?_⟩
  · unfold j_note_29
    rw [h1, cl_n (by omega), inB_t hnx (by omega), show arB 0 (30 + 1 + nx) 0 = true from ar_hist (j := 0) hnx (by omega), show arB 0 (30 + 1 + nx) 1 = true from ar_hist (j := 1) hnx (by omega), show arB 0 (30 + 1 + nx) 2 = true from ar_hist (j := 2) hnx (by omega), show arB 0 (30 + 1 + nx) 3 = true from ar_hist (j := 3) hnx (by omega), gd_t, gd_t, gd_t, gd_t, gd_t, hτ, e1, (ring_irm nx hnx).1, si_j (by omega), e2, (ring_imin h (by omega)).1]
  · intro i hi hne
    rw [si_c (by omega), si_c (by omega), ← hτ, si_c (by omega), si_c (by omega), si_c (by omega), si_c (by omega)]
  · rw [si_c (by omega), si_c (by omega), ← hτ, si_j (by omega), si_j (by omega), si_j (by omega), si_e]
  · rw [si_c (by omega), si_c (by omega), ← hτ, si_j (by omega), si_j (by omega), si_e]
  · rw [si_c (by omega), si_c (by omega), ← hτ, si_j (by omega), si_e]
  · rw [si_c (by omega), si_c (by omega), ← hτ, si_e]
  · rw [si_j (by omega), si_e]
  · rw [si_e]
  · intro c c1 c2
    rw [si_c c1, si_c c1, ← hτ, si_c (by omega), si_c (by omega), si_c (by omega), si_c (by omega)]
  · rw [← hτ]; rfl
theorem i5 (h : Nat) : (5 : Int32) * nI h = nI (5 * h) := by rw [show (5 : Int32) = nI 5 from rfl, nI_mul]
theorem i5t (h t : Nat) : nI (5 * h) + nI t = nI (5 * h + t) := by rw [nI_add]
theorem mch_b {h a : Nat} {o : Int32} {σ : Sg} (hh : h < 20) (ha : a < 139) (ho : o < 0 ∨ ∃ k, k < 139 ∧ o = nI k) (h7 : σ.1 117 7 = nI h) : ∃ σ', m_changes_117_b47 (nI a) o σ = some ((), σ') ∧ (∀ c, c ≠ 117 → c ≠ 122 → σ'.1 c = σ.1 c) ∧ σ'.2 = σ.2 ∧ (∀ j, j ≠ 7 → σ'.1 117 j = σ.1 117 j) ∧ σ'.1 117 7 = nI (h + 1) ∧ (∀ j, j < 5 * h → σ'.1 122 j = σ.1 122 j) ∧ σ'.1 122 (5 * h) = nI a ∧ σ'.1 122 (5 * h + 1) = σ.1 118 a ∧ σ'.1 122 (5 * h + 2) = o ∧ σ'.1 122 (5 * h + 3) = if o < 0 then 0 else σ.1 118 o.toNatClampNeg := by
  have x1 : nI (5 * h) + 1 = nI (5 * h + 1) := by rw [nI_1]
  have x2 : nI (5 * h) + 2 = nI (5 * h + 2) := by rw [show (2 : Int32) = nI 2 from rfl, nI_add]
  have x3 : nI (5 * h) + 3 = nI (5 * h + 3) := by rw [show (3 : Int32) = nI 3 from rfl, nI_add]
  generalize hτ : si (si (si σ 122 (5 * h) (nI a)) 122 (5 * h + 1) (σ.1 118 a)) 122 (5 * h + 2) o = τ
  have hc : ∀ c, c ≠ 122 → τ.1 c = σ.1 c := fun c hc => by rw [← hτ, si_c hc, si_c hc, si_c hc]
  refine ⟨si (si τ 122 (5 * h + 3) (if o < 0 then 0 else σ.1 118 o.toNatClampNeg)) 117 7 (nI (h + 1)), ?_, ?_, ?_, ?_, ?_, ?_, ?_, ?_, ?_, ?_⟩
  · have b105 : ∀ v, m_changes_117_b105 (nI (5 * h + 3)) v τ = some ((), si (si τ 122 (5 * h + 3) v) 117 7 (nI (h + 1))) := by
      intro v
      unfold m_changes_117_b105
      rw [inB_t (by omega) (by omega), gd_t, cl_n (by omega), si_c (by omega), hc 117 (by omega), h7, nI_1]
    unfold m_changes_117_b47
    rw [h7, i5, x1, x2, x3, inB_t (by omega) (by omega), inB_t ha (by omega), inB_t (by omega) (by omega), inB_t (by omega) (by omega), gd_t, gd_t, gd_t, gd_t, cl_n (by omega), cl_n (by omega), cl_n (by omega), cl_n (by omega)]
    simp only [si_c (show (118 : Nat) ≠ 122 by decide)]
    rw [hτ]
    rcases ho with ho | ⟨k, hk, rfl⟩
    · rw [if_neg (Int32.not_le.mpr ho), b105, if_pos ho]
    · rw [if_pos (nI_pos' (by omega)), inB_t hk (by omega), gd_t, b105, if_neg (nI_pos (by omega))]
  · intro c c1 c2; rw [si_c c1, si_c c2, hc c c2]
  · rw [si_l, si_l, ← hτ]; rfl
  · intro j hj; rw [si_j hj, si_c (by omega), hc 117 (by omega)]
  · rw [si_e]
  · intro j hj
    rw [si_c (by omega), si_j (by omega), ← hτ, si_j (by omega), si_j (by omega), si_j (by omega)]
  · rw [si_c (by omega), si_j (by omega), ← hτ, si_j (by omega), si_j (by omega), si_e]
  · rw [si_c (by omega), si_j (by omega), ← hτ, si_j (by omega), si_e]
  · rw [si_c (by omega), si_j (by omega), ← hτ, si_e]
  · rw [si_c (by omega), si_e]
theorem mch {h a : Nat} {o : Int32} {σ : Sg} (hh : h ≤ 20) (ha : a < 139) (ho : o < 0 ∨ ∃ k, k < 139 ∧ o = nI k) (h7 : σ.1 117 7 = nI h) : ∃ σ', m_changes_117 (nI a) o σ = some ((), σ') ∧ (∀ c, c ≠ 117 → c ≠ 122 → σ'.1 c = σ.1 c) ∧ σ'.2 = σ.2 ∧ (∀ j, j ≠ 7 → σ'.1 117 j = σ.1 117 j) ∧ SPu σ σ' h (nI a) (σ.1 118 a) o (if o < 0 then 0 else σ.1 118 o.toNatClampNeg) := by
  by_cases e : h = 20
  · subst e
    have sh : ∃ τ, m_changes_117_L11 fu (nI a) o 5 σ = m_changes_117_b47 (nI a) o (si τ 117 7 (nI 19)) ∧ FR [122] σ τ ∧ τ.2 = σ.2 ∧ ∀ j, j < 95 → τ.1 122 j = σ.1 122 (j + 5) := by
      refine loopQ (fun m k s => m_changes_117_L11 m (nI a) o (nI k) s) 100 (fun k τ => 5 ≤ k ∧ FR [122] σ τ ∧ τ.2 = σ.2 ∧ (∀ j, j < k - 5 → τ.1 122 j = σ.1 122 (j + 5)) ∧ ∀ j, k - 5 ≤ j → τ.1 122 j = σ.1 122 j) (fun r => ∃ τ, r = m_changes_117_b47 (nI a) o (si τ 117 7 (nI 19)) ∧ FR [122] σ τ ∧ τ.2 = σ.2 ∧ ∀ j, j < 95 → τ.1 122 j = σ.1 122 (j + 5)) ?_ ?_ 95 fu 5 σ (by omega) (by decide) ⟨by omega, FR_refl _ _, rfl, fun j hj => by omega, fun j _ => rfl⟩
      · rintro m k τ hk ⟨k5, f, f2, g1, g2⟩
        refine Or.inl ⟨si τ 122 (k - 5) (σ.1 122 k), ?_, by omega, FR_si f (by decide), f2, ?_, ?_⟩
        · show m_changes_117_H11 (m_changes_117_L11 m) (nI a) o (nI k) τ = _
          unfold m_changes_117_H11
          have hs : nI k - 5 = nI (k - 5) := by rw [show (5 : Int32) = nI 5 from rfl, nI_sub k5]
          rw [if_neg (show ¬ (100 : Int32) ≤ nI k from nI_ge (b := 100) hk (by decide)), hs, inB_t hk (by omega), inB_t (by omega) (by omega), gd_t, gd_t, cl_n (by omega), cl_n (by omega), g2 k (by omega), nI_1]
        · intro j hj
          by_cases e : j = k - 5
          · rw [e, si_e, show k - 5 + 5 = k by omega]
          · rw [si_j e]; exact g1 j (by omega)
        · intro j hj
          rw [si_j (by omega)]; exact g2 j (by omega)
      · rintro m τ ⟨k5, f, f2, g1, g2⟩
        refine ⟨τ, ?_, f, f2, fun j hj => g1 j (by omega)⟩
        show m_changes_117_H11 (m_changes_117_L11 m) (nI a) o (nI 100) τ = _
        unfold m_changes_117_H11
        rw [if_pos (show (100 : Int32) ≤ nI 100 by decide), FR_i f (by decide), h7]
        rfl
    obtain ⟨τ, w1, w2, w3, w4⟩ := sh
    have hc : ∀ c, c ≠ 117 → c ≠ 122 → (si τ 117 7 (nI 19)).1 c = σ.1 c := fun c c1 c2 => by rw [si_c c1, FR_i w2 (FR_1 c2)]
    obtain ⟨σ', y1, y2, y3, y4, y5, y6, y7, y8, y9, y10⟩ := mch_b (h := 19) (a := a) (o := o) (σ := si τ 117 7 (nI 19)) (by omega) ha ho si_e
    refine ⟨σ', ?_, fun c c1 c2 => (y2 c c1 c2).trans (hc c c1 c2), y3.trans w3, ?_, ⟨?_, y7, ?_, y9, ?_, y5⟩⟩
    · unfold m_changes_117
      rw [h7, if_pos (show nI 20 = 20 from rfl)]
      exact w1.trans y1
    · intro j hj; rw [y4 j hj, si_j hj, FR_i w2 (by decide)]
    · intro j hj t ht
      rw [y6 _ (by omega), si_c (by omega), w4 _ (by omega), if_neg (by omega), show 5 * (j + 1) + t = 5 * j + t + 5 by omega]
    · exact y8.trans (by rw [hc 118 (by omega) (by omega)])
    · exact y10.trans (by rw [hc 118 (by omega) (by omega)])
  · obtain ⟨σ', y1, y2, y3, y4, y5, y6, y7, y8, y9, y10⟩ := mch_b (h := h) (a := a) (o := o) (σ := σ) (by omega) ha ho h7
    have m1 : min h 19 = h := by omega
    have m2 : min (h + 1) 20 = h + 1 := by omega
    refine ⟨σ', ?_, y2, y3, y4, ?_⟩
    · unfold m_changes_117
      rw [h7, if_neg (show ¬ nI h = 20 from fun w => e ((nI_eq (b := 20) (by omega) (by omega)).mp w))]
      exact y1
    · unfold SPu
      rw [m1, m2]
      refine ⟨?_, y7, y8, y9, y10, y5⟩
      intro j hj t ht
      rw [y6 _ (by omega), if_pos (by omega)]
