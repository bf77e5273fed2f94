/-! ===== PURE: the reference counts DIMENSIONS ===== -/
theorem mkey {q len : Nat} {σ τ : Sg} {fac : Nat → Nat} (hq : q ≤ 8) (hM : MR 1 118 q σ) (h8 : τ.1 118 = σ.1 118) (hlen : len ≤ 3) (hf : ∀ j, j < len → τ.1 129 j = nI (fac j) ∧ fac j < 2 * q) : ∃ k, m_keyOf_117 (nI len) τ = some (k, τ) ∧ k.toInt = KM (fun u => fsum σ fac u len) := by
  have st : ∀ (m u : Nat) (s : Int64) (a : Int), u < 5 → s.toInt = a → a.natAbs ≤ 100000000000000 → ∃ s', m_keyOf_117_L5 (m + 1) (nI len) s (nI u) τ = m_keyOf_117_L5 m (nI len) s' (nI (u + 1)) τ ∧ s'.toInt = 1000 * a + fsum σ fac u len := by
    intro m u s a hu hs hb
    obtain ⟨r, w1, w2⟩ := mpby (u := u) hq hM h8 hlen hu hf
    have hl := fsum_le (fac := fac) hM hu len (fun j hj => (hf j hj).2)
    refine ⟨1000 * s + r.toInt64, ?_, ?_⟩
    · show m_keyOf_117_H5 (m_keyOf_117_L5 m) _ s (nI u) τ = _
      unfold m_keyOf_117_H5
      rw [if_neg (show ¬ (5 : Int32) ≤ nI u from nI_ge (b := 5) hu (by decide)), w1, bd_s, nI_1]
    · exact L_add (L_mul (show (1000 : Int64).toInt = 1000 by decide) hs (by omega) (by omega)) (by rw [Int32.toInt_toInt64]; exact w2) (by omega) (by omega)
  have b : ∀ u, u < 5 → (fsum σ fac u len).natAbs ≤ 60 := fun u hu => by
    have := fsum_le (fac := fac) hM hu len (fun j hj => (hf j hj).2)
    omega
  have b0 := b 0 (by omega)
  have b1 := b 1 (by omega)
  have b2 := b 2 (by omega)
  have b3 := b 3 (by omega)
  have b4 := b 4 (by omega)
  obtain ⟨s1, e1, v1⟩ := st 19999 0 0 0 (by omega) L_0 (by omega)
  obtain ⟨s2, e2, v2⟩ := st 19998 1 s1 _ (by omega) v1 (by omega)
  obtain ⟨s3, e3, v3⟩ := st 19997 2 s2 _ (by omega) v2 (by omega)
  obtain ⟨s4, e4, v4⟩ := st 19996 3 s3 _ (by omega) v3 (by omega)
  obtain ⟨s5, e5, v5⟩ := st 19995 4 s4 _ (by omega) v4 (by omega)
  have en : m_keyOf_117_L5 (19994 + 1) (nI len) s5 (nI 5) τ = some (s5, τ) := by
    show m_keyOf_117_H5 (m_keyOf_117_L5 19994) _ s5 (nI 5) τ = _
    unfold m_keyOf_117_H5
    rw [if_pos (show (5 : Int32) ≤ nI 5 by decide)]
  refine ⟨s5, ?_, ?_⟩
  · have : m_keyOf_117 (nI len) τ = m_keyOf_117_L5 (19999 + 1) (nI len) 0 (nI 0) τ := rfl
    rw [this, e1, e2, e3, e4, e5, en]
  · rw [v5]
    show _ = (((fsum σ fac 0 len * 1000 + fsum σ fac 1 len) * 1000 + fsum σ fac 2 len) * 1000 + fsum σ fac 3 len) * 1000 + fsum σ fac 4 len
    omega
/-- the reference's keys so far -/
def TT (T : List Int64) (f : Nat → Int64) : Prop := (∀ i, i < T.length → f i = T.getD i 0) ∧ T.Nodup
theorem mem_getD {T : List Int64} {k : Int64} : k ∈ T ↔ ∃ i, i < T.length ∧ T.getD i 0 = k := by
  rw [List.mem_iff_getElem]
  constructor
  · rintro ⟨i, h, e⟩
    exact ⟨i, h, by rw [List.getD_eq_getElem?_getD, List.getElem?_eq_getElem h]; exact e⟩
  · rintro ⟨i, h, e⟩
    refine ⟨i, h, ?_⟩
    rw [List.getD_eq_getElem?_getD, List.getElem?_eq_getElem h] at e
    exact e
theorem mdif {T : List Int64} {τ : Sg} {k : Int64} (h : TT T (τ.2 131)) (hT : T.length < 969) : (k ∈ T ∧ m_differs_117 (nI T.length) k τ = some (nI T.length, τ)) ∨ (k ∉ T ∧ ∃ τ', m_differs_117 (nI T.length) k τ = some (nI (T.length + 1), τ') ∧ FR [129, 131] τ τ' ∧ τ'.1 = τ.1 ∧ TT (T ++ [k]) (τ'.2 131)) := by
  have walk : ∀ d i m, i + d ≤ T.length → d < m → (∀ e, e < i + d → T.getD e 0 ≠ k) → ∃ m', m_differs_117_L3 m (nI T.length) k (nI i) τ = m_differs_117_L3 (m' + 1) (nI T.length) k (nI (i + d)) τ := by
    intro d
    induction d with
    | zero => intro i m hi hm _; exact ⟨m - 1, by rw [show m - 1 + 1 = m by omega]; rfl⟩
    | succ d ih =>
      intro i m hi hm hne
      obtain ⟨m, rfl⟩ : ∃ j, m = j + 1 := ⟨m - 1, by omega⟩
      obtain ⟨m', hr⟩ := ih (i + 1) m (by omega) (by omega) (fun e he => hne e (by omega))
      refine ⟨m', ?_⟩
      rw [show i + (d + 1) = i + 1 + d by omega, ← hr]
      show m_differs_117_H3 (m_differs_117_L3 m) _ k (nI i) τ = _
      unfold m_differs_117_H3
      rw [if_neg (nI_ge (by omega) (by omega)), inB_t (by omega) (by omega), gd_t, cl_n (by omega), h.1 i (by omega), if_neg (fun w => hne i (by omega) (cmp_eq.mp w)), nI_1]
  have st : m_differs_117 (nI T.length) k τ = m_differs_117_L3 fu (nI T.length) k (nI 0) τ := rfl
  by_cases hk : k ∈ T
  · left
    refine ⟨hk, ?_⟩
    obtain ⟨i1, hi1, he1⟩ := mem_getD.mp hk
    obtain ⟨i0, hi0, he0, hb0⟩ := fst_of (P := fun i => T.getD i 0 = k) i1 he1
    obtain ⟨m', hr⟩ := walk i0 0 fu (by omega) (fu_lt (by omega)) (fun e he => hb0 e (by omega))
    rw [Nat.zero_add] at hr
    rw [st, hr]
    show m_differs_117_H3 (m_differs_117_L3 m') _ k (nI i0) τ = _
    unfold m_differs_117_H3
    rw [if_neg (nI_ge (by omega) (by omega)), inB_t (by omega) (by omega), gd_t, cl_n (by omega), h.1 i0 (by omega), if_pos (cmp_eq.mpr he0)]
  · right
    refine ⟨hk, sl τ 131 T.length k, ?_, FR_sl (FR_refl _ _) (by decide), rfl, ?_, ?_⟩
    · obtain ⟨m', hr⟩ := walk T.length 0 fu (by omega) (fu_lt (by omega)) (fun e he w => hk (mem_getD.mpr ⟨e, by omega, w⟩))
      rw [Nat.zero_add] at hr
      rw [st, hr]
      show m_differs_117_H3 (m_differs_117_L3 m') _ k (nI T.length) τ = _
      unfold m_differs_117_H3
      rw [if_pos (nI_le (Nat.le_refl _) (by omega)), inB_t (by omega) (by omega), gd_t, cl_n (by omega), nI_1]
    · intro i hi
      rw [List.length_append, List.length_singleton] at hi
      rw [List.getD_eq_getElem?_getD]
      by_cases e : i = T.length
      · rw [e, sl_e, List.getElem?_concat_length]; rfl
      · rw [sl_j e, h.1 i (by omega), List.getElem?_append_left (by omega), List.getD_eq_getElem?_getD]
    · rw [List.nodup_append]
      refine ⟨h.2, List.nodup_cons.mpr ⟨List.not_mem_nil, List.nodup_nil⟩, fun a ha b hb => ?_⟩
      rw [List.mem_singleton] at hb
      subst hb
      exact fun e => hk (e ▸ ha)
def nsm (g : Nat → Nat) : Nat → Nat → Nat
  | 0, _ => 0
  | e + 1, f => g f + nsm g e (f + 1)
/-- how many rows of d factors, from lo on -/
def AN (Q : Nat) : Nat → Nat → Nat
  | 0, _ => 1
  | d + 1, lo => nsm (fun f => AN Q d f) (Q - lo) lo
theorem AN_le : ∀ q, q < 9 → AN (2 * q) 0 0 + AN (2 * q) 1 0 + AN (2 * q) 2 0 + AN (2 * q) 3 0 ≤ 969 := by decide +kernel
theorem AN_pos (Q lo : Nat) : AN Q 0 lo = 1 := rfl
theorem mad {q len : Nat} {σ : Sg} (hq : q ≤ 8) (hM : MR 1 118 q σ) (hlen : len ≤ 3) : ∀ d m k (fac : Nat → Nat) (τ : Sg) (T : List Int64), k + d = len → d < m → τ.1 118 = σ.1 118 → (∀ j, j < k → τ.1 129 j = nI (fac j) ∧ fac j < 2 * q) → TT T (τ.2 131) → T.length + AN (2 * q) d (if k = 0 then 0 else fac (k - 1)) ≤ 969 → ∃ τ' T', m_adds_117 m (nI k) (nI len) (nI T.length) τ = some (nI T'.length, τ') ∧ FR [129, 131] τ τ' ∧ (∀ i, i < k → τ'.1 129 i = τ.1 129 i) ∧ TT T' (τ'.2 131) ∧ T'.length ≤ T.length + AN (2 * q) d (if k = 0 then 0 else fac (k - 1)) ∧ ∀ y, y ∈ T' ↔ y ∈ T ∨ ∃ w, VA σ q d (if k = 0 then 0 else fac (k - 1)) (fun u => fsum σ fac u k) w ∧ y.toInt = KM w
  | 0, m, k, fac, τ, T, hk, hm, h8, hf, hT, hc => by
    obtain ⟨m, rfl⟩ : ∃ j, m = j + 1 := ⟨m - 1, by omega⟩
    have hkl : k = len := by omega
    subst hkl
    rw [AN_pos] at hc ⊢
    obtain ⟨key, k1, k2⟩ := mkey hq hM h8 hlen hf
    have st : m_adds_117 (m + 1) (nI k) (nI k) (nI T.length) τ = bd (m_differs_117 (nI T.length) key τ) fun r4 σ4 => some (r4, σ4) := by
      show m_adds_117_H (m_adds_117 m) (nI k) (nI k) (nI T.length) τ = _
      unfold m_adds_117_H
      rw [if_pos rfl, k1, bd_s]
    rw [st]
    rcases mdif (k := key) hT (by omega) with ⟨w1, w2⟩ | ⟨w1, τ', w2, w3, w4, w5⟩
    · refine ⟨τ, T, by rw [w2, bd_s], FR_refl _ _, fun _ _ => rfl, hT, by omega, fun y => ⟨Or.inl, ?_⟩⟩
      rintro (h | ⟨w, h1, h2⟩)
      · exact h
      · have h1' : w = fun u => fsum σ fac u k := h1
        subst h1'
        rw [L_eq (h2.trans k2.symm)]; exact w1
    · refine ⟨τ', T ++ [key], by rw [w2, bd_s, List.length_append, List.length_singleton], w3, fun i _ => by rw [w4], w5, by rw [List.length_append, List.length_singleton]; exact Nat.le_refl _, fun y => ?_⟩
      rw [List.mem_append, List.mem_singleton]
      constructor
      · rintro (h | h)
        · exact Or.inl h
        · exact Or.inr ⟨_, rfl, by rw [h]; exact k2⟩
      · rintro (h | ⟨w, h1, h2⟩)
        · exact Or.inl h
        · have h1' : w = fun u => fsum σ fac u k := h1
          subst h1'
          exact Or.inr (L_eq (h2.trans k2.symm))
  | d + 1, m, k, fac, τ, T, hk, hm, h8, hf, hT, hc => by
    obtain ⟨m, rfl⟩ : ∃ j, m = j + 1 := ⟨m - 1, by omega⟩
    generalize hlo : (if k = 0 then 0 else fac (k - 1)) = lo at hc ⊢
    have hlq : lo ≤ 2 * q := by
      rw [← hlo]
      split
      · omega
      · have := (hf (k - 1) (by omega)).2
        omega
    have st : m_adds_117 (m + 1) (nI k) (nI len) (nI T.length) τ = m_adds_117_L37 (m_adds_117 m) fu (nI k) (nI len) (nI T.length) (nI lo) τ := by
      show m_adds_117_H (m_adds_117 m) (nI k) (nI len) (nI T.length) τ = _
      unfold m_adds_117_H m_adds_117_b35
      rw [if_neg (fun w => by have := (nI_eq (by omega) (by omega)).mp w; omega)]
      by_cases g : k = 0
      · rw [if_pos (show nI k = 0 by rw [g]; rfl), ← hlo, if_pos g]; rfl
      · rw [if_neg (show ¬ nI k = 0 from fun w => g ((nI_eq (b := 0) (by omega) (by omega)).mp w)), show nI k - 1 = nI (k - 1) from nI_sub (b := 1) (by omega), inB_t (by omega) (by omega), gd_t, cl_n (by omega), (hf (k - 1) (by omega)).1, ← hlo, if_neg g]
    have h2q : (2 : Int32) * nI q = nI (2 * q) := by rw [show (2 : Int32) = nI 2 from rfl, nI_mul]
    have h0 : τ.1 118 0 = nI q := by rw [h8]; exact hM.2.1
    have hAN : AN (2 * q) (d + 1) lo = nsm (fun f => AN (2 * q) d f) (2 * q - lo) lo := rfl
    have key : ∀ e mm f (ρ : Sg) (T1 : List Int64), f + e = 2 * q → lo ≤ f → e < mm → FR [129, 131] τ ρ → (∀ i, i < k → ρ.1 129 i = τ.1 129 i) → TT T1 (ρ.2 131) → T1.length + nsm (fun f => AN (2 * q) d f) e f ≤ 969 → (∀ y, y ∈ T1 ↔ y ∈ T ∨ ∃ (p : Nat) (w : Nat → Int), lo ≤ p ∧ p < f ∧ VA σ q d p (fun u => fsum σ fac u k + fvz σ p u) w ∧ y.toInt = KM w) → ∃ τ' T', m_adds_117_L37 (m_adds_117 m) mm (nI k) (nI len) (nI T1.length) (nI f) ρ = some (nI T'.length, τ') ∧ FR [129, 131] τ τ' ∧ (∀ i, i < k → τ'.1 129 i = τ.1 129 i) ∧ TT T' (τ'.2 131) ∧ T'.length ≤ T1.length + nsm (fun f => AN (2 * q) d f) e f ∧ ∀ y, y ∈ T' ↔ y ∈ T ∨ ∃ (p : Nat) (w : Nat → Int), lo ≤ p ∧ p < 2 * q ∧ VA σ q d p (fun u => fsum σ fac u k + fvz σ p u) w ∧ y.toInt = KM w := by
      intro e
      induction e with
      | zero =>
        intro mm f ρ T1 hf' hlf hmm fr pr hT1 hc1 hmem
        obtain ⟨mm, rfl⟩ : ∃ j, mm = j + 1 := ⟨mm - 1, by omega⟩
        have ef : f = 2 * q := by omega
        refine ⟨ρ, T1, ?_, fr, pr, hT1, by omega, fun y => by rw [hmem y, ef]⟩
        show m_adds_117_H37 (m_adds_117 m) (m_adds_117_L37 (m_adds_117 m) mm) _ _ (nI T1.length) (nI f) ρ = _
        unfold m_adds_117_H37
        rw [FR_i fr (by decide), h0, h2q, if_pos (nI_le (by omega) (by omega))]
      | succ e ih =>
        intro mm f ρ T1 hf' hlf hmm fr pr hT1 hc1 hmem
        obtain ⟨mm, rfl⟩ : ∃ j, mm = j + 1 := ⟨mm - 1, by omega⟩
        have hf2 : f < 2 * q := by omega
        have hns : nsm (fun f => AN (2 * q) d f) (e + 1) f = AN (2 * q) d f + nsm (fun f => AN (2 * q) d f) e (f + 1) := rfl
        have hfs : (fun u => fsum σ (fun j => if j = k then f else fac j) u (k + 1)) = (fun u => fsum σ fac u k + fvz σ f u) := by
          funext u
          show fsum σ (fun j => if j = k then f else fac j) u k + fvz σ (if k = k then f else fac k) u = _
          rw [if_pos rfl, fsum_cg (fac := fac) k (fun j hj => if_neg (by omega))]
        have hlast : (if k + 1 = 0 then 0 else (fun j => if j = k then f else fac j) (k + 1 - 1)) = f := by
          rw [if_neg (by omega)]
          show (if k + 1 - 1 = k then f else fac (k + 1 - 1)) = f
          rw [if_pos (by omega)]
        have hrec := mad (q := q) (len := len) (σ := σ) hq hM hlen d m (k + 1) (fun j => if j = k then f else fac j) (si ρ 129 k (nI f)) T1 (by omega) (by omega) (by rw [si_c (by omega), FR_i fr (by decide)]; exact h8) (fun j hj => by
          by_cases e : j = k
          · rw [e, si_e, if_pos rfl]; exact ⟨rfl, hf2⟩
          · rw [si_j e, if_neg e, pr j (by omega)]; exact hf j (by omega)) (by rw [si_l]; exact hT1) (by rw [hlast]; omega)
        rw [hlast, hfs] at hrec
        obtain ⟨τ1, T2, w1, w2, w3, w4, w5, w6⟩ := hrec
        have st2 : m_adds_117_L37 (m_adds_117 m) (mm + 1) (nI k) (nI len) (nI T1.length) (nI f) ρ = m_adds_117_L37 (m_adds_117 m) mm (nI k) (nI len) (nI T2.length) (nI (f + 1)) τ1 := by
          show m_adds_117_H37 (m_adds_117 m) (m_adds_117_L37 (m_adds_117 m) mm) _ _ (nI T1.length) (nI f) ρ = _
          unfold m_adds_117_H37
          rw [FR_i fr (by decide), h0, h2q, if_neg (nI_ge hf2 (by omega)), inB_t (by omega) (by omega), gd_t, cl_n (by omega), nI_1, w1, bd_s, nI_1]
        rw [st2]
        obtain ⟨τ2, T3, y1, y2, y3, y4, y5, y6⟩ := ih mm (f + 1) τ1 T2 (by omega) (by omega) (by omega) (FR_trans (FR_si fr (by decide)) w2) (fun i hi => by rw [w3 i (by omega), si_j (by omega)]; exact pr i hi) w4 (by omega) (fun y => by
          rw [w6 y, hmem y]
          constructor
          · rintro ((h | ⟨p, w, p1, p2, p3⟩) | ⟨w, p1, p2⟩)
            · exact Or.inl h
            · exact Or.inr ⟨p, w, p1, by omega, p3⟩
            · exact Or.inr ⟨f, w, hlf, by omega, p1, p2⟩
          · rintro (h | ⟨p, w, p1, p2, p3⟩)
            · exact Or.inl (Or.inl h)
            · by_cases g : p = f
              · subst g; exact Or.inr ⟨w, p3⟩
              · exact Or.inl (Or.inr ⟨p, w, p1, by omega, p3⟩))
        exact ⟨τ2, T3, y1, y2, y3, y4, by omega, y6⟩
    rw [st, hAN]
    obtain ⟨τ', T', w1, w2, w3, w4, w5, w6⟩ := key (2 * q - lo) fu lo τ T (by omega) (Nat.le_refl _) (fu_lt (by omega)) (FR_refl _ _) (fun _ _ => rfl) hT (by omega) (fun y => ⟨Or.inl, fun h => by
      rcases h with h | ⟨p, w, p1, p2, p3⟩
      · exact h
      · omega⟩)
    refine ⟨τ', T', w1, w2, w3, w4, w5, fun y => ?_⟩
    rw [w6 y]
    constructor
    · rintro (h | ⟨p, w, p1, p2, p3, p4⟩)
      · exact Or.inl h
      · exact Or.inr ⟨w, ⟨p, p1, p2, p3⟩, p4⟩
    · rintro (h | ⟨w, ⟨p, p1, p2, p3⟩, p4⟩)
      · exact Or.inl h
      · exact Or.inr ⟨p, w, p1, p2, p3, p4⟩
