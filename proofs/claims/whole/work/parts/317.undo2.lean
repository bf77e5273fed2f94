/-! ===== PURE: undo as a call ===== -/
theorem undo_HR {q nx hh : Nat} {σ σe : Sg} (hh20 : hh + 1 ≤ 20) (hnx : nx < 20) (r4 : ∀ j, j < hh + 1 → HE q σ ((nx + 20 - (hh + 1) + j) % 20) j) (e1 : ∀ x, 31 ≤ x → x ≤ 50 → σe.1 x = σ.1 x) (e2 : σe.1 122 = σ.1 122) (e3 : σe.1 29 1 = nI ((nx + 19) % 20)) (e4 : σe.1 29 2 = nI hh) (e5 : σe.1 117 7 = nI hh) : HR q σe := by
  refine ⟨hh, (nx + 19) % 20, by omega, Nat.mod_lt _ (by omega), e3, e4, e5, ?_⟩
  intro j hj
  have hi : ((nx + 19) % 20 + 20 - hh + j) % 20 = (nx + 20 - (hh + 1) + j) % 20 := by omega
  rw [hi]
  have hlt : (nx + 20 - (hh + 1) + j) % 20 < 20 := Nat.mod_lt _ (by omega)
  exact HE_tr (r4 j (by omega)) (fun t _ => by rw [e1 _ (by omega) (by omega)]) (fun t _ => by rw [e2])
theorem op_undo {n q ver : Nat} {σ : Sg} (hn : n < 512) (h : VV n q ver σ) : ∃ r σ1 σ2, j_undo_0 σ = some (r, σ1) ∧ m_undo_117 σ1 = some (r, σ2) ∧ VI (n + 1) σ2 := by
  have hq := vq h
  obtain ⟨hh', nx, hh20, hnx, r1, r2, r3, r4⟩ := h.2.2.2.2.2.2.2.2.1
  obtain ⟨m1, m2, m3, m4, m5, m6⟩ := vMR h
  unfold j_undo_0
  rcases Nat.eq_zero_or_pos hh' with w | w
  · subst w
    refine ⟨-3, rj 3 σ, rm 3 (rj 3 σ), ?_, ?_, fin_ref hn (by omega) (by omega) h (Kp_refl _) (Kp_refl _)⟩
    · rw [r2, if_pos (show nI 0 = 0 from rfl), jr3, bd_s]
    · unfold m_undo_117
      rw [rj_c (by decide), r3, if_pos (show nI 0 = 0 from rfl), mr3, bd_s]
  · obtain ⟨hh, rfl⟩ : ∃ m, hh' = m + 1 := ⟨hh' - 1, by omega⟩
    have hp : (nx + 19) % 20 < 20 := Nat.mod_lt _ (by omega)
    have hE := r4 hh (by omega)
    rw [show (nx + 20 - (hh + 1) + hh) % 20 = (nx + 19) % 20 by omega] at hE
    obtain ⟨k, hk, row1, hE⟩ := hE
    have hn0 : ¬ σ.1 29 2 = 0 := by
      rw [r2]; exact (show ¬ nI (hh + 1) = 0 from fun w => by have := (nI_eq (b := 0) (by omega) (by omega)).mp w; omega)
    have tc : ∀ c, c ≠ 29 → (tkb σ ((nx + 19) % 20) hh).1 c = σ.1 c := fun c hc => by unfold tkb; rw [si_c hc, si_c hc]
    have t1 : (tkb σ ((nx + 19) % 20) hh).1 29 1 = nI ((nx + 19) % 20) := by unfold tkb; rw [si_j (by omega), si_e]
    have t2 : (tkb σ ((nx + 19) % 20) hh).1 29 2 = nI hh := by unfold tkb; rw [si_e]
    generalize hτ : tkb σ ((nx + 19) % 20) hh = τ at tc t1 t2
    rcases hE with ⟨c0, u, hu, c2, htv, s0, c3, s2⟩ | ⟨c0, κ, hκ, c2, s0, s1, s2⟩ | ⟨c0, hSC, s0, s2⟩
    · have htb := jtb0 hnx (by omega) r1 r2 (show k < 8 by omega) hu c0 row1 c2
      rw [hτ] at htb
      generalize hv : σ.1 (30 + 1 + (nx + 19) % 20) 3 = v at htb c3
      rw [← c3] at htv
      generalize hσb : si τ (3 + 1 + k) u v = σb at htb
      have eb : ∀ x, x ≠ 29 → x ≠ 3 + 1 + k → σb.1 x = σ.1 x := fun x x1 x2 => by rw [← hσb, si_c x2, tc x x1]
      have ebt : ∀ k' u', k' < q → u' < 5 → σb.1 (3 + 1 + k') u' = if k' = k ∧ u' = u then v else σ.1 118 (9 + 5 * k' + u') := by
        intro k' u' hk' hu'
        have mm : σ.1 (3 + 1 + k') u' = σ.1 118 (9 + 5 * k' + u') := (m4 k' u' hk' hu').1
        by_cases e : k' = k
        · subst e
          by_cases e2 : u' = u
          · subst e2; rw [← hσb, si_e, if_pos ⟨rfl, rfl⟩]
          · rw [← hσb, si_j e2, tc _ (by omega), if_neg (fun w => e2 w.2)]; exact mm
        · rw [eb _ (by omega) (by omega), if_neg (fun w => e w.1)]; exact mm
      obtain ⟨σc, c1', c2', c3'⟩ := fin_meas (σb := σb) (q' := q) hn h hq (by rw [eb 1 (by omega) (by omega)]; exact m1) (fun k' hk' => by
        obtain ⟨κ, q1, q2, q3⟩ := m3 k' hk'
        exact ⟨κ, q1, by rw [eb 2 (by omega) (by omega)]; exact q2⟩) (fun k' u' hk' hu' => by
        rw [ebt k' u' hk' hu']
        split
        · exact htv
        · exact (m4 k' u' hk' hu').2) (by rw [eb 51 (by omega) (by omega)])
      have e117 : σc.1 117 = σ.1 117 := by rw [c2' 117 (by omega), eb 117 (by omega) (by omega)]
      have e118 : σc.1 118 = σ.1 118 := by rw [c2' 118 (by omega), eb 118 (by omega) (by omega)]
      have e122 : σc.1 122 = σ.1 122 := by rw [c2' 122 (by omega), eb 122 (by omega) (by omega)]
      have hmu := mundo1 (σ := σc) (h := hh) (a := 9 + 5 * k + u) (x := v) (by omega) (by rw [e117]; exact r3) (by omega) (by rw [e122]; exact s0) (by rw [e122]; exact c3.symm) (by rw [e122]; exact s2)
      generalize hσe : si (si σc 117 7 (nI hh)) 118 (9 + 5 * k + u) v = σe at hmu
      have ee : ∀ x, x ≠ 117 → x ≠ 118 → σe.1 x = σc.1 x := fun x x1 x2 => by rw [← hσe, si_c x2, si_c x1]
      have ee7 : ∀ j, j ≠ 7 → σe.1 117 j = σ.1 117 j := fun j hj => by rw [← hσe, si_c (by omega), si_j hj, e117]
      have ee8 : ∀ j, j ≠ 9 + 5 * k + u → σe.1 118 j = σ.1 118 j := fun j hj => by rw [← hσe, si_j hj, si_c (by omega), e118]
      have ee8' : σe.1 118 (9 + 5 * k + u) = v := by rw [← hσe, si_e]
      have eb' : ∀ x, x ≤ 50 → σe.1 x = σb.1 x := fun x hx => by rw [ee x (by omega) (by omega), c2' x (by omega)]
      refine ⟨nI hh, σc, σe, ?_, hmu, q, ver + 1, c3' σe ?_ (fun x hx => eb' x (by omega)) ?_ (ee7 2 (by omega)) (ee7 5 (by omega)) ?_ ?_⟩
      · rw [if_neg hn0, htb, bd_s, c1', bd_s, c2' 29 (by omega), ← hσb, si_c (by omega), t2]
      · intro x x1 x2
        exact ⟨ee x (by omega) (by omega), by rw [← hσe, si_l, si_l]⟩
      · intro x hx
        unfold kc at hx
        rw [ee x (by omega) (by omega), c2' x (by omega), eb x (by omega) (by omega)]
      · refine ⟨by rw [eb' 1 (by omega), eb 1 (by omega) (by omega)]; exact m1, by rw [ee8 0 (by omega)]; exact m2, ?_, ?_, ?_, ?_⟩
        · intro k' hk'
          rw [eb' (1 + 1) (by omega), eb (1 + 1) (by omega) (by omega), ee8 (1 + k') (by omega)]; exact m3 k' hk'
        · intro k' u' hk' hu'
          have e1 : σe.1 (1 + 2 + 1 + k') u' = if k' = k ∧ u' = u then v else σ.1 118 (9 + 5 * k' + u') := by
            rw [eb' (1 + 2 + 1 + k') (by omega)]; exact ebt k' u' hk' hu'
          by_cases e : k' = k ∧ u' = u
          · rw [e1, if_pos e, e.1, e.2, ee8']; exact ⟨rfl, htv⟩
          · rw [e1, if_neg e, ee8 _ (by omega)]; exact ⟨rfl, (m4 k' u' hk' hu').2⟩
        · intro k' hk'
          rw [eb' (1 + 11) (by omega), eb' (1 + 12) (by omega), eb (1 + 11) (by omega) (by omega), eb (1 + 12) (by omega) (by omega), ee8 _ (by omega), ee8 _ (by omega)]; exact m5 k' hk'
        · exact FM_cg m6 (by rw [eb' 1 (by omega), eb 1 (by omega) (by omega)]) (by rw [eb' 1 (by omega), eb 1 (by omega) (by omega)]) (by rw [eb' (1 + 13) (by omega), eb (1 + 13) (by omega) (by omega)]) (fun j hj => ee8 j (by omega))
      · refine undo_HR hh20 hnx r4 (fun x x1 x2 => by rw [eb' x x2, eb x (by omega) (by omega)]) (by rw [ee 122 (by omega) (by omega), e122]) ?_ ?_ ?_
        · rw [eb' 29 (by omega), ← hσb, si_c (by omega), t1]
        · rw [eb' 29 (by omega), ← hσb, si_c (by omega), t2]
        · rw [← hσe, si_c (by omega), si_e]
    · have htb := jtb1 hnx (by omega) r1 r2 (show k < 8 by omega) c0 row1
      rw [hτ, c2] at htb
      generalize hσb : si τ 2 k (nI κ) = σb at htb
      have eb : ∀ x, x ≠ 29 → x ≠ 2 → σb.1 x = σ.1 x := fun x x1 x2 => by rw [← hσb, si_c x2, tc x x1]
      have ebk : ∀ k', σb.1 2 k' = if k' = k then nI κ else σ.1 2 k' := by
        intro k'
        by_cases e : k' = k
        · subst e; rw [← hσb, si_e, if_pos rfl]
        · rw [← hσb, si_j e, tc _ (by omega), if_neg e]
      obtain ⟨σc, c1', c2', c3'⟩ := fin_meas (σb := σb) (q' := q) hn h hq (by rw [eb 1 (by omega) (by omega)]; exact m1) (fun k' hk' => by
        rw [ebk]
        split
        · exact ⟨κ, hκ, rfl⟩
        · obtain ⟨κ', q1, q2, q3⟩ := m3 k' hk'
          exact ⟨κ', q1, q2⟩) (fun k' u' hk' hu' => by
        rw [eb _ (by omega) (by omega)]
        have mm := m4 k' u' hk' hu'
        have e0 : σ.1 (3 + 1 + k') u' = σ.1 118 (9 + 5 * k' + u') := mm.1
        rw [e0]; exact mm.2) (by rw [eb 51 (by omega) (by omega)])
      have e117 : σc.1 117 = σ.1 117 := by rw [c2' 117 (by omega), eb 117 (by omega) (by omega)]
      have e118 : σc.1 118 = σ.1 118 := by rw [c2' 118 (by omega), eb 118 (by omega) (by omega)]
      have e122 : σc.1 122 = σ.1 122 := by rw [c2' 122 (by omega), eb 122 (by omega) (by omega)]
      have hmu := mundo1 (σ := σc) (h := hh) (a := 1 + k) (x := nI κ) (by omega) (by rw [e117]; exact r3) (by omega) (by rw [e122]; exact s0) (by rw [e122]; exact s1) (by rw [e122]; exact s2)
      generalize hσe : si (si σc 117 7 (nI hh)) 118 (1 + k) (nI κ) = σe at hmu
      have ee : ∀ x, x ≠ 117 → x ≠ 118 → σe.1 x = σc.1 x := fun x x1 x2 => by rw [← hσe, si_c x2, si_c x1]
      have ee7 : ∀ j, j ≠ 7 → σe.1 117 j = σ.1 117 j := fun j hj => by rw [← hσe, si_c (by omega), si_j hj, e117]
      have ee8 : ∀ j, j ≠ 1 + k → σe.1 118 j = σ.1 118 j := fun j hj => by rw [← hσe, si_j hj, si_c (by omega), e118]
      have ee8' : σe.1 118 (1 + k) = nI κ := by rw [← hσe, si_e]
      have eb' : ∀ x, x ≤ 50 → σe.1 x = σb.1 x := fun x hx => by rw [ee x (by omega) (by omega), c2' x (by omega)]
      refine ⟨nI hh, σc, σe, ?_, hmu, q, ver + 1, c3' σe ?_ (fun x hx => eb' x (by omega)) ?_ (ee7 2 (by omega)) (ee7 5 (by omega)) ?_ ?_⟩
      · rw [if_neg hn0, htb, bd_s, c1', bd_s, c2' 29 (by omega), ← hσb, si_c (by omega), t2]
      · intro x x1 x2
        exact ⟨ee x (by omega) (by omega), by rw [← hσe, si_l, si_l]⟩
      · intro x hx
        unfold kc at hx
        rw [ee x (by omega) (by omega), c2' x (by omega), eb x (by omega) (by omega)]
      · refine ⟨by rw [eb' 1 (by omega), eb 1 (by omega) (by omega)]; exact m1, by rw [ee8 0 (by omega)]; exact m2, ?_, ?_, ?_, ?_⟩
        · intro k' hk'
          have e1 : σe.1 (1 + 1) k' = if k' = k then nI κ else σ.1 2 k' := by rw [eb' (1 + 1) (by omega)]; exact ebk k'
          by_cases e : k' = k
          · rw [e1, if_pos e, e, ee8']; exact ⟨κ, hκ, rfl, rfl⟩
          · rw [e1, if_neg e, ee8 _ (by omega)]; exact m3 k' hk'
        · intro k' u' hk' hu'
          rw [eb' (1 + 2 + 1 + k') (by omega), eb (1 + 2 + 1 + k') (by omega) (by omega), ee8 _ (by omega)]; exact m4 k' u' hk' hu'
        · intro k' hk'
          rw [eb' (1 + 11) (by omega), eb' (1 + 12) (by omega), eb (1 + 11) (by omega) (by omega), eb (1 + 12) (by omega) (by omega), ee8 _ (by omega), ee8 _ (by omega)]; exact m5 k' hk'
        · exact FM_cg m6 (by rw [eb' 1 (by omega), eb 1 (by omega) (by omega)]) (by rw [eb' 1 (by omega), eb 1 (by omega) (by omega)]) (by rw [eb' (1 + 13) (by omega), eb (1 + 13) (by omega) (by omega)]) (fun j hj => ee8 j (by omega))
      · refine undo_HR hh20 hnx r4 (fun x x1 x2 => by rw [eb' x x2, eb x (by omega) (by omega)]) (by rw [ee 122 (by omega) (by omega), e122]) ?_ ?_ ?_
        · rw [eb' 29 (by omega), ← hσb, si_c (by omega), t1]
        · rw [eb' 29 (by omega), ← hσb, si_c (by omega), t2]
        · rw [← hσe, si_c (by omega), si_e]
    · have htb := jtb2 hnx (by omega) r1 r2 (show k < 8 by omega) c0 row1
      rw [hτ] at htb
      generalize hx : σ.1 (30 + 1 + (nx + 19) % 20) 2 = x at htb hSC
      generalize hy : σ.1 (30 + 1 + (nx + 19) % 20) 3 = y at htb hSC
      generalize hσb : si (si τ 12 k x) 13 k y = σb at htb
      have eb : ∀ z, z ≠ 29 → z ≠ 12 → z ≠ 13 → σb.1 z = σ.1 z := fun z x1 x2 x3 => by rw [← hσb, si_c x3, si_c x2, tc z x1]
      have eb12 : ∀ k', σb.1 12 k' = if k' = k then x else σ.1 12 k' := by
        intro k'
        rw [← hσb, si_c (by omega)]
        by_cases e : k' = k
        · subst e; rw [si_e, if_pos rfl]
        · rw [si_j e, tc _ (by omega), if_neg e]
      have eb13 : ∀ k', σb.1 13 k' = if k' = k then y else σ.1 13 k' := by
        intro k'
        rw [← hσb]
        by_cases e : k' = k
        · subst e; rw [si_e, if_pos rfl]
        · rw [si_j e, si_c (by omega), tc _ (by omega), if_neg e]
      obtain ⟨σc, c1', c2', c3'⟩ := fin_meas (σb := σb) (q' := q) hn h hq (by rw [eb 1 (by omega) (by omega) (by omega)]; exact m1) (fun k' hk' => by
        obtain ⟨κ, q1, q2, q3⟩ := m3 k' hk'
        exact ⟨κ, q1, by rw [eb 2 (by omega) (by omega) (by omega)]; exact q2⟩) (fun k' u' hk' hu' => by
        rw [eb _ (by omega) (by omega) (by omega)]
        have mm := m4 k' u' hk' hu'
        have e0 : σ.1 (3 + 1 + k') u' = σ.1 118 (9 + 5 * k' + u') := mm.1
        rw [e0]; exact mm.2) (by rw [eb 51 (by omega) (by omega) (by omega)])
      have e117 : σc.1 117 = σ.1 117 := by rw [c2' 117 (by omega), eb 117 (by omega) (by omega) (by omega)]
      have e118 : σc.1 118 = σ.1 118 := by rw [c2' 118 (by omega), eb 118 (by omega) (by omega) (by omega)]
      have e122 : σc.1 122 = σ.1 122 := by rw [c2' 122 (by omega), eb 122 (by omega) (by omega) (by omega)]
      have hmu := mundo2 (σ := σc) (h := hh) (a := 49 + k) (b := 57 + k) (x := σ.1 122 (5 * hh + 1)) (y := σ.1 122 (5 * hh + 3)) (by omega) (by rw [e117]; exact r3) (by omega) (by omega) (by rw [e122]; exact s0) (by rw [e122]) (by rw [e122]; exact s2) (by rw [e122])
      generalize hx2 : σ.1 122 (5 * hh + 1) = x2 at hmu hSC
      generalize hy2 : σ.1 122 (5 * hh + 3) = y2 at hmu hSC
      generalize hσe : si (si (si σc 117 7 (nI hh)) 118 (49 + k) x2) 118 (57 + k) y2 = σe at hmu
      have ee : ∀ z, z ≠ 117 → z ≠ 118 → σe.1 z = σc.1 z := fun z x1 x2 => by rw [← hσe, si_c x2, si_c x2, si_c x1]
      have ee7 : ∀ j, j ≠ 7 → σe.1 117 j = σ.1 117 j := fun j hj => by rw [← hσe, si_c (by omega), si_c (by omega), si_j hj, e117]
      have ee8 : ∀ j, j ≠ 49 + k → j ≠ 57 + k → σe.1 118 j = σ.1 118 j := fun j hj hj2 => by rw [← hσe, si_j hj2, si_j hj, si_c (by omega), e118]
      have eb' : ∀ z, z ≤ 50 → σe.1 z = σb.1 z := fun z hz => by rw [ee z (by omega) (by omega), c2' z (by omega)]
      refine ⟨nI hh, σc, σe, ?_, hmu, q, ver + 1, c3' σe ?_ (fun z hz => eb' z (by omega)) ?_ (ee7 2 (by omega)) (ee7 5 (by omega)) ?_ ?_⟩
      · rw [if_neg hn0, htb, bd_s, c1', bd_s, c2' 29 (by omega), ← hσb, si_c (by omega), si_c (by omega), t2]
      · intro z x1 x2
        exact ⟨ee z (by omega) (by omega), by rw [← hσe, si_l, si_l, si_l]⟩
      · intro z hz
        unfold kc at hz
        rw [ee z (by omega) (by omega), c2' z (by omega), eb z (by omega) (by omega) (by omega)]
      · refine ⟨by rw [eb' 1 (by omega), eb 1 (by omega) (by omega) (by omega)]; exact m1, by rw [ee8 0 (by omega) (by omega)]; exact m2, ?_, ?_, ?_, ?_⟩
        · intro k' hk'
          rw [eb' (1 + 1) (by omega), eb (1 + 1) (by omega) (by omega) (by omega), ee8 _ (by omega) (by omega)]; exact m3 k' hk'
        · intro k' u' hk' hu'
          rw [eb' (1 + 2 + 1 + k') (by omega), eb (1 + 2 + 1 + k') (by omega) (by omega) (by omega), ee8 _ (by omega) (by omega)]; exact m4 k' u' hk' hu'
        · intro k' hk'
          have f12 : σe.1 (1 + 11) k' = if k' = k then x else σ.1 12 k' := by rw [eb' (1 + 11) (by omega)]; exact eb12 k'
          have f13 : σe.1 (1 + 12) k' = if k' = k then y else σ.1 13 k' := by rw [eb' (1 + 12) (by omega)]; exact eb13 k'
          rw [f12, f13]
          by_cases e : k' = k
          · subst e
            rw [if_pos rfl, if_pos rfl, ← hσe, si_j (by omega), si_e, si_e]; exact hSC
          · rw [if_neg e, if_neg e, ee8 _ (by omega) (by omega), ee8 _ (by omega) (by omega)]; exact m5 k' hk'
        · exact FM_cg m6 (by rw [eb' 1 (by omega), eb 1 (by omega) (by omega) (by omega)]) (by rw [eb' 1 (by omega), eb 1 (by omega) (by omega) (by omega)]) (by rw [eb' (1 + 13) (by omega), eb (1 + 13) (by omega) (by omega) (by omega)]) (fun j hj => ee8 j (by omega) (by omega))
      · refine undo_HR hh20 hnx r4 (fun z x1 x2 => by rw [eb' z x2, eb z (by omega) (by omega) (by omega)]) (by rw [ee 122 (by omega) (by omega), e122]) ?_ ?_ ?_
        · rw [eb' 29 (by omega), ← hσb, si_c (by omega), si_c (by omega), t1]
        · rw [eb' 29 (by omega), ← hσb, si_c (by omega), si_c (by omega), t2]
        · rw [← hσe, si_c (by omega), si_c (by omega), si_e]
