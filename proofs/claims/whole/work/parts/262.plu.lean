/-! ===== PURE: the identity behind an exact division ===== -/
theorem lt5 {k : Nat} (h : k < 5) : k = 0 ∨ k = 1 ∨ k = 2 ∨ k = 3 ∨ k = 4 := by omega
theorem DT_l {k : Nat} (hk : k < 5) (N : Nat → Nat → Int) (a b : Int) (u v : Nat → Int) : DT (rpl N k (fun r => a * u r + b * v r)) = a * DT (rpl N k u) + b * DT (rpl N k v) := by
  rcases lt5 hk with rfl | rfl | rfl | rfl | rfl
  · exact DT_l0 N a b u v
  · exact DT_l1 N a b u v
  · exact DT_l2 N a b u v
  · exact DT_l3 N a b u v
  · exact DT_l4 N a b u v
theorem DT_cr {i : Nat} (hi : i < 5) (N : Nat → Nat → Int) (v : Nat → Int) : N i 0 * DT (rpl N 0 v) + N i 1 * DT (rpl N 1 v) + N i 2 * DT (rpl N 2 v) + N i 3 * DT (rpl N 3 v) + N i 4 * DT (rpl N 4 v) = v i * DT N := by
  rcases lt5 hi with rfl | rfl | rfl | rfl | rfl
  · exact DT_c0 N v
  · exact DT_c1 N v
  · exact DT_c2 N v
  · exact DT_c3 N v
  · exact DT_c4 N v
theorem swc_com (N : Nat → Nat → Int) (a b : Nat) : swc N a b = swc N b a := by
  funext r c
  unfold swc
  by_cases h1 : c = a
  · by_cases h2 : c = b
    · subst h1; rw [if_pos rfl, if_pos h2, h2]
    · rw [if_pos h1, if_neg h2, if_pos h1]
  · by_cases h2 : c = b
    · rw [if_neg h1, if_pos h2, if_pos h2]
    · rw [if_neg h1, if_neg h2, if_neg h2, if_neg h1]
theorem DT_sw' {a b : Nat} (h : a < b) (hb : b < 5) (N : Nat → Nat → Int) : DT (swc N a b) = - DT N := by
  have : (a = 0 ∧ b = 1) ∨ (a = 0 ∧ b = 2) ∨ (a = 0 ∧ b = 3) ∨ (a = 0 ∧ b = 4) ∨ (a = 1 ∧ b = 2) ∨ (a = 1 ∧ b = 3) ∨ (a = 1 ∧ b = 4) ∨ (a = 2 ∧ b = 3) ∨ (a = 2 ∧ b = 4) ∨ (a = 3 ∧ b = 4) := by omega
  rcases this with ⟨rfl, rfl⟩ | ⟨rfl, rfl⟩ | ⟨rfl, rfl⟩ | ⟨rfl, rfl⟩ | ⟨rfl, rfl⟩ | ⟨rfl, rfl⟩ | ⟨rfl, rfl⟩ | ⟨rfl, rfl⟩ | ⟨rfl, rfl⟩ | ⟨rfl, rfl⟩
  · exact DT_s01 N
  · exact DT_s02 N
  · exact DT_s03 N
  · exact DT_s04 N
  · exact DT_s12 N
  · exact DT_s13 N
  · exact DT_s14 N
  · exact DT_s23 N
  · exact DT_s24 N
  · exact DT_s34 N
theorem DT_sw {a b : Nat} (h : a ≠ b) (ha : a < 5) (hb : b < 5) (N : Nat → Nat → Int) : DT (swc N a b) = - DT N := by
  rcases Nat.lt_or_gt_of_ne h with g | g
  · exact DT_sw' g hb N
  · rw [swc_com]; exact DT_sw' g ha N
theorem DT_eq {a b : Nat} (h : a ≠ b) (ha : a < 5) (hb : b < 5) {N : Nat → Nat → Int} (he : ∀ r, N r a = N r b) : DT N = 0 := by
  have e : swc N a b = N := by
    funext r c
    unfold swc
    by_cases h1 : c = a
    · subst h1; rw [if_pos rfl, he]
    · by_cases h2 : c = b
      · subst h2; rw [if_neg h1, if_pos rfl, he]
      · rw [if_neg h1, if_neg h2]
  have := DT_sw h ha hb N
  rw [e] at this
  omega
theorem rpl_id (N : Nat → Nat → Int) (k : Nat) : rpl N k (fun r => N r k) = N := by
  funext r c
  unfold rpl
  by_cases h : c = k
  · subst h; rw [if_pos rfl]
  · rw [if_neg h]
theorem rpl_e (N : Nat → Nat → Int) (k : Nat) (v : Nat → Int) (r : Nat) : rpl N k v r k = v r := by unfold rpl; rw [if_pos rfl]
theorem rpl_n {N : Nat → Nat → Int} {k c : Nat} {v : Nat → Int} (h : c ≠ k) (r : Nat) : rpl N k v r c = N r c := by unfold rpl; rw [if_neg h]
theorem rpl_2 (N : Nat → Nat → Int) (k : Nat) (u v : Nat → Int) : rpl (rpl N k u) k v = rpl N k v := by
  funext r c
  unfold rpl
  by_cases h : c = k
  · rw [if_pos h, if_pos h]
  · rw [if_neg h, if_neg h, if_neg h]
theorem DT_dup {i k : Nat} (h : i ≠ k) (hi : i < 5) (hk : k < 5) (N : Nat → Nat → Int) : DT (rpl N k (fun r => N r i)) = 0 :=
  DT_eq h hi hk (fun r => by rw [rpl_n h, rpl_e])
theorem DT_x {k : Nat} (hk : k < 5) {N : Nat → Nat → Int} {u v : Nat → Int} (h : ∀ r, r < 5 → u r = v r) : DT (rpl N k u) = DT (rpl N k v) := by
  rcases lt5 hk with rfl | rfl | rfl | rfl | rfl
  · rw [DT_r0, DT_r0, h 0 (by omega), h 1 (by omega), h 2 (by omega), h 3 (by omega), h 4 (by omega)]
  · rw [DT_r1, DT_r1, h 0 (by omega), h 1 (by omega), h 2 (by omega), h 3 (by omega), h 4 (by omega)]
  · rw [DT_r2, DT_r2, h 0 (by omega), h 1 (by omega), h 2 (by omega), h 3 (by omega), h 4 (by omega)]
  · rw [DT_r3, DT_r3, h 0 (by omega), h 1 (by omega), h 2 (by omega), h 3 (by omega), h 4 (by omega)]
  · rw [DT_r4, DT_r4, h 0 (by omega), h 1 (by omega), h 2 (by omega), h 3 (by omega), h 4 (by omega)]
/-- what is linear and nothing on five columns of a full row is nothing -/
theorem lin0 {N : Nat → Nat → Int} (hD : DT N ≠ 0) (f : (Nat → Int) → Int) (hl : ∀ a b u v, f (fun r => a * u r + b * v r) = a * f u + b * f v) (hx : ∀ u v, (∀ r, r < 5 → u r = v r) → f u = f v) (hN : ∀ i, i < 5 → f (fun r => N r i) = 0) (v : Nat → Int) : f v = 0 := by
  have h1 : f (fun r => DT N * v r + 0 * v r) = DT N * f v := by rw [hl]; omega
  have h2 : f (fun r => DT N * v r + 0 * v r) = f (fun r => DT (rpl N 0 v) * N r 0 + 1 * (DT (rpl N 1 v) * N r 1 + 1 * (DT (rpl N 2 v) * N r 2 + 1 * (DT (rpl N 3 v) * N r 3 + DT (rpl N 4 v) * N r 4)))) := by
    apply hx
    intro r hr
    have := DT_cr hr N v
    grind
  rw [h2] at h1
  rw [hl (DT (rpl N 0 v)) 1 (fun r => N r 0) (fun r => DT (rpl N 1 v) * N r 1 + 1 * (DT (rpl N 2 v) * N r 2 + 1 * (DT (rpl N 3 v) * N r 3 + DT (rpl N 4 v) * N r 4))), hl (DT (rpl N 1 v)) 1 (fun r => N r 1) (fun r => DT (rpl N 2 v) * N r 2 + 1 * (DT (rpl N 3 v) * N r 3 + DT (rpl N 4 v) * N r 4)), hl (DT (rpl N 2 v)) 1 (fun r => N r 2) (fun r => DT (rpl N 3 v) * N r 3 + DT (rpl N 4 v) * N r 4), hl (DT (rpl N 3 v)) (DT (rpl N 4 v)) (fun r => N r 3) (fun r => N r 4), hN 0 (by omega), hN 1 (by omega), hN 2 (by omega), hN 3 (by omega), hN 4 (by omega)] at h1
  have h3 : DT N * f v = 0 := by omega
  rcases Int.mul_eq_zero.mp h3 with h | h
  · exact absurd h hD
  · exact h
theorem plu {N : Nat → Nat → Int} {r k : Nat} (hr : r < 5) (hk : k < 5) (hne : r ≠ k) (hD : DT N ≠ 0) (a b : Nat → Int) : DT (rpl N r a) * DT (rpl N k b) - DT (rpl N r b) * DT (rpl N k a) = DT N * DT (rpl (rpl N k b) r a) := by
  have key := lin0 hD (fun v => DT (rpl N r v) * DT (rpl N k b) - DT (rpl N r b) * DT (rpl N k v) - DT N * DT (rpl (rpl N k b) r v)) ?_ ?_ ?_ a
  · omega
  · intro x y u v
    rw [DT_l hr, DT_l hk, DT_l hr]; grind
  · intro u v h
    rw [DT_x hr h, DT_x hk h, DT_x hr h]
  · intro i hi
    by_cases h1 : i = r
    · subst h1
      rw [rpl_id, DT_dup hne hr hk]
      have : rpl (rpl N k b) i (fun r => N r i) = rpl N k b := by
        have e : (fun r => N r i) = (fun r => rpl N k b r i) := by funext r; rw [rpl_n hne]
        rw [e, rpl_id]
      rw [this]; grind
    · by_cases h2 : i = k
      · subst h2
        rw [rpl_id, DT_dup h1 hi hr]
        have : rpl (rpl N i b) r (fun r => N r i) = swc (rpl N r b) r i := by
          funext x c
          unfold rpl swc
          by_cases c1 : c = r
          · subst c1; rw [if_pos rfl, if_pos rfl]; exact (if_neg h1).symm
          · by_cases c2 : c = i
            · subst c2; rw [if_neg c1, if_pos rfl, if_neg c1, if_pos rfl]; exact (if_pos rfl).symm
            · rw [if_neg c1, if_neg c2, if_neg c1, if_neg c2]; exact (if_neg c1).symm
        rw [this, DT_sw (fun e => h1 e.symm) hr hi]; grind
      · rw [DT_dup h1 hi hr, DT_dup h2 hi hk]
        have : DT (rpl (rpl N k b) r (fun r => N r i)) = 0 := by
          have e : (fun r => N r i) = (fun r => rpl N k b r i) := by funext r; rw [rpl_n h2]
          rw [e]; exact DT_dup h1 hi hr _
        rw [this]; grind
