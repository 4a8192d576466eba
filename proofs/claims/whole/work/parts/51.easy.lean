/-! PURE: the easy calls -/
theorem o_finding : op_finding RR := by
  intro σ τ h
  exact ⟨pI σ 0 12, rfl, by unfold fX5_finding; rw [h.1.2.2.2.1], h⟩
theorem o_asked : op_asked RR := by
  intro σ τ h
  exact ⟨pI σ 0 9, rfl, by unfold fX5_asked; rw [h.1.1], h⟩
theorem o_upper : op_upper RR := by
  intro σ τ h
  exact ⟨pL σ 0 10, rfl, by unfold fX5_upper; rw [h.1.2.1], h⟩
theorem o_lower : op_lower RR := by
  intro σ τ h
  exact ⟨pL σ 0 11, rfl, by unfold fX5_lower; rw [h.1.2.2.1], h⟩
theorem isRow_cases (a : Int32) : (fX4_isRow a = some 0 ∧ fX5_isRow a = some 0) ∨ ∃ k, k < 6 ∧ a = nI k ∧ fX4_isRow a = some 1 ∧ fX5_isRow a = some 1 := by
  unfold fX4_isRow fX5_isRow fX5_in
  rcases ix_cases a 6 (by decide) with h | ⟨h, h2⟩ | ⟨k, hk, rfl⟩
  · left
    have h3 : a < 0 := h
    simp [h3, obind_some]
    decide
  · left
    have h2 : (6 : Int32) ≤ a := h2
    have h5 : (5 : Int32) < a := by
      rw [Int32.lt_iff_toInt_lt]
      rw [Int32.le_iff_toInt_le] at h2
      have e6 : (6 : Int32).toInt = 6 := by decide
      have e5 : (5 : Int32).toInt = 5 := by decide
      omega
    simp [h, h2, h5, obind_some]
    decide
  · right
    have h0 : ¬ nI k < 0 := nI_pos (by omega)
    have h6 : ¬ (6 : Int32) ≤ nI k := nI_nge (b := 6) hk (by decide)
    have h5 : ¬ (5 : Int32) < nI k := fun z => absurd z (nI_nlt (a := 5) (b := k) (by omega) (by decide))
    refine ⟨k, hk, rfl, ?_, ?_⟩
    · simp [h0, h6]
    · simp [h0, h5, obind_some]
      decide
theorem o_tear : op_tear RR := by
  intro σ τ a h
  unfold fX4_tear fX5_tear
  rcases isRow_cases a with ⟨h1, h2⟩ | ⟨k, hk, rfl, h1, h2⟩
  · exact ⟨-1, σ, τ, by rw [h1]; rfl, by rw [h2]; rfl, h⟩
  · have hp : pin (nI k) 6 = true := pin_lit hk (by decide)
    have hc : (nI k).toNatClampNeg = k := nI_clamp (by omega)
    rw [h1, h2]
    simp only [obind_some, hp, hc, if_true, plet_eq, show ¬ ((1 : Int32) = 0) by decide, if_false]
    rcases h.2.1 k hk with ⟨e1, e2⟩ | ⟨s, hs, e1, e2, e3⟩
    · rw [e1, e2]
      simp only [if_true, nI_m1_nge, if_false]
      rw [xf1, mf1]
      exact ⟨-3, _, _, rfl, rfl, RR_find h (by decide)⟩
    · rw [e1, e2]
      simp only [nI_ne_m1 (show s < 2 ^ 31 by omega), if_false, nI_ge0 (show s < 2 ^ 31 by omega), if_true]
      refine ⟨1, _, _, rfl, rfl, RR_row1 (k := k) h hk (fun e i h1 h2 => pI_sI_ne h1) (fun r hr => pI_sI_nj hr) (fun _ _ => rfl) (fun _ _ => rfl) (fun e i h1 h2 => pI_sI_ne h1) (fun r hr => pI_sI_nj hr) (fun r i _ _ => pI_sI_ne (by decide)) (fun _ _ => rfl) (Or.inl ⟨pI_sI_eq, pI_sI_eq⟩)⟩
/-- a place of a row: too small, too large, or there -/
theorem place_cases (i : Int32) (s : Nat) (hs : s ≤ 120) : (fX4_hasPlaces (nI s) i 1 = some 0 ∧ fX5_in i 0 (nI s - 1) = some 0) ∨ ∃ j, j < s ∧ i = nI j ∧ fX4_hasPlaces (nI s) i 1 = some 1 ∧ fX5_in i 0 (nI s - 1) = some 1 := by
  have es : (nI s - 1).toInt = (s : Int) - 1 := pk_sub_toInt (a := s) (b := 1) (by omega) (by omega)
  have e1 : (1 : Int32).toInt = 1 := by decide
  unfold fX4_hasPlaces fX5_in
  rcases ix_cases i s (by omega) with h | ⟨h, h2⟩ | ⟨j, hj, rfl⟩
  · left
    simp [h]
  · left
    have h5 : nI s - 1 < i := by
      rw [Int32.lt_iff_toInt_lt, es]
      rw [Int32.le_iff_toInt_le, nI_toInt (by omega)] at h2
      omega
    refine ⟨?_, by simp [h, h5]⟩
    rw [if_neg h]
    by_cases h3 : nI s < i
    · rw [if_pos h3]
    · rw [if_neg h3]
      have e : i = nI s := by
        apply Int32.toInt_inj.mp
        rw [Int32.le_iff_toInt_le] at h2
        rw [Int32.lt_iff_toInt_lt] at h3
        omega
      subst e
      rw [if_pos]
      have : nI s - nI s = 0 := by rw [Int32.sub_self]
      rw [this]; decide
  · right
    have h0 : ¬ nI j < 0 := nI_pos (by omega)
    have h3 : ¬ nI s < nI j := nI_nlt (by omega) (by omega)
    have h4 : ¬ nI s - nI j < 1 := by
      rw [Int32.lt_iff_toInt_lt, pk_sub_toInt (by omega) (by omega), e1]
      omega
    have h5 : ¬ nI s - 1 < nI j := by
      rw [Int32.lt_iff_toInt_lt, es, nI_toInt (by omega)]
      omega
    exact ⟨j, hj, rfl, by simp [h0, h3, h4], by simp [h0, h5]⟩
theorem n60 {k j : Nat} : (60 : Int32) * nI k + nI j = nI (60 * k + j) := by
  rw [show (60 : Int32) = nI 60 from rfl, pk_mul, nI_add]
theorem n120 {k j : Nat} : (120 : Int32) * nI k + nI j = nI (120 * k + j) := by
  rw [show (120 : Int32) = nI 120 from rfl, pk_mul, nI_add]
theorem rowAt_eq {τ : pS} {k j : Nat} (hk : k < 6) (hj : j < 60) : fX5_rowAt τ (nI k) (nI j) = some (pI τ 3 (60 * k + j)) := by
  unfold fX5_rowAt
  rw [n60, pin_lit (show 60 * k + j < 360 by omega) (by decide), nI_clamp (by omega)]
  simp
theorem tells_eq {τ : pS} {a b : Int32} : fX5_tells τ a b = some (b, sI τ 0 2 a) := rfl
theorem o_at : op_at RR := by
  intro σ τ a i h
  unfold fX4_at fX4_refusePlace fX5_at
  rcases isRow_cases a with ⟨h1, h2⟩ | ⟨k, hk, rfl, h1, h2⟩
  · exact ⟨-1, σ, τ, by rw [h1]; rfl, by rw [h2]; rfl, h⟩
  · have hp : pin (nI k) 6 = true := pin_lit hk (by decide)
    have hc : (nI k).toNatClampNeg = k := nI_clamp (by omega)
    rw [h1, h2]
    simp only [obind_some, hp, hc, if_true, plet_eq, i10, if_false]
    rcases h.2.1 k hk with ⟨e1, e2⟩ | ⟨s, hs, e1, e2, e3⟩
    · rw [e1, e2]
      simp only [if_true, nI_m1_nge, if_false, xf1, mf1, pbind_some]
      exact ⟨-3, _, _, rfl, rfl, RR_find h (by decide)⟩
    · rw [e1, e2]
      simp only [nI_ne_m1 (show s < 2 ^ 31 by omega), if_false, nI_ge0 (show s < 2 ^ 31 by omega), if_true]
      rcases place_cases i s (by omega) with ⟨g1, g2⟩ | ⟨j, hj, rfl, g1, g2⟩
      · rw [g1, g2]
        simp only [obind_some, if_true, xf2, mf2, pbind_some]
        exact ⟨-3, _, _, rfl, rfl, RR_find h (by decide)⟩
      · rw [g1, g2]
        simp only [obind_some, i10, if_false, pbind_some, if_true, pin_lit (show j < 60 by omega) (by decide), rowAt_eq hk (show j < 60 by omega), tells_eq, nI_clamp (show j < 2 ^ 31 by omega), e3 j hj]
        exact ⟨1, _, _, rfl, rfl, RR_told h _⟩
