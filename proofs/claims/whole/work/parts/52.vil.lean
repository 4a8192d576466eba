/-! PURE: numbers in a range; persons, debts, hours; calls that change the village a little -/
theorem in_neg {a b : Int32} (h : a < 0) : fX5_in a 0 b = some 0 := by unfold fX5_in; rw [if_pos h]
theorem in_big {a b c : Int32} (h : c < a) : fX5_in a b c = some 0 := by
  unfold fX5_in
  by_cases h1 : a < b
  · rw [if_pos h1]
  · rw [if_neg h1, if_pos h]
theorem in_yes {a b c : Int32} (h1 : ¬ a < b) (h2 : ¬ c < a) : fX5_in a b c = some 1 := by unfold fX5_in; rw [if_neg h1, if_neg h2]
theorem rng (a : Int32) (n : Nat) (hn : n < 2 ^ 31) : (a < 0) ∨ (¬ a < 0 ∧ ¬ a ≤ nI n ∧ nI n < a) ∨ ∃ k, k ≤ n ∧ a = nI k ∧ ¬ a < 0 ∧ a ≤ nI n ∧ ¬ nI n < a := by
  by_cases h0 : a < 0
  · exact Or.inl h0
  · by_cases h1 : nI n < a
    · refine Or.inr (Or.inl ⟨h0, fun z => ?_, h1⟩)
      rw [Int32.le_iff_toInt_le] at z
      rw [Int32.lt_iff_toInt_lt] at h1
      omega
    · obtain ⟨k, hk, rfl⟩ := nI_of h0
      rw [Int32.lt_iff_toInt_lt, nI_toInt hn, nI_toInt hk] at h1
      refine Or.inr (Or.inr ⟨k, by omega, rfl, h0, nI_le (by omega) hn, ?_⟩)
      rw [Int32.lt_iff_toInt_lt, nI_toInt hn, nI_toInt hk]
      exact h1
theorem nar0 : vp_nar .boolean (0 : Int32) = 0 := by decide
theorem nar1 : vp_nar .boolean (1 : Int32) = 1 := by decide
theorem in_place (i : Int32) (s : Nat) (hs : s ≤ 120) : (fX5_in i 0 (nI s - 1) = some 0 ∧ (i < 0 ∨ (¬ i < 0 ∧ nI s ≤ i))) ∨ ∃ j, j < s ∧ i = nI j ∧ fX5_in i 0 (nI s - 1) = some 1 ∧ ¬ i < 0 ∧ ¬ nI s ≤ i := by
  rcases ix_cases i s (by omega) with h | ⟨h, h2⟩ | ⟨j, hj, rfl⟩
  · exact Or.inl ⟨in_neg h, Or.inl h⟩
  · rcases place_cases i s hs with ⟨_, g⟩ | ⟨j, hj, rfl, _, g⟩
    · exact Or.inl ⟨g, Or.inr ⟨h, h2⟩⟩
    · exact absurd h2 (nI_nge hj (by omega))
  · rcases place_cases (nI j) s hs with ⟨_, g⟩ | ⟨j', hj', e, _, g⟩
    · refine absurd g ?_
      rw [in_yes (nI_pos (by omega))]
      · simp
      · rw [Int32.lt_iff_toInt_lt, nI_toInt (by omega), show (nI s - 1).toInt = (s : Int) - 1 from pk_sub_toInt (a := s) (b := 1) (by omega) (by omega)]
        omega
    · exact Or.inr ⟨j, hj, rfl, g, nI_pos (by omega), nI_nge hj (by omega)⟩
theorem isOne_cases {σ τ : pS} (h : RR σ τ) (a : Int32) : (fX3_isPerson σ (vl σ) a = some 0 ∧ fX5_isOne τ a = some 0) ∨ ∃ p, p < tn τ ∧ a = nI p ∧ fX3_isPerson σ (vl σ) a = some 1 ∧ fX5_isOne τ a = some 1 := by
  obtain ⟨v1, v2, v3, v4, v5, v6, v7, v8⟩ := h.2.2.2.1
  obtain ⟨o1, o2, o3, o4, o5, o6, o7⟩ := h.2.2.2.2.1
  unfold fX3_isPerson fX5_isOne
  rw [v1, v4, o3]
  rcases in_place a (tn τ) (by omega) with ⟨g, e | ⟨e1, e2⟩⟩ | ⟨j, hj, rfl, g, e1, e2⟩
  · left
    rw [g, if_pos e]
    simp only [obind_some, nar0, if_true, and_self]
  · left
    rw [g, if_neg e1]
    simp only [obind_some, nar0, if_true, e2, and_self]
  · right
    refine ⟨j, hj, rfl, ?_, ?_⟩
    · rw [if_neg e1]
      simp only [e2, if_false, if_true]
    · rw [g]
      simp only [obind_some, nar1, if_true]
theorem isDebt_cases {σ τ : pS} (h : RR σ τ) (a : Int32) : (fX3_isDebt σ (vl σ) a = some 0 ∧ fX5_isDebt τ a = some 0) ∨ ∃ p, p < td τ ∧ a = nI p ∧ fX3_isDebt σ (vl σ) a = some 1 ∧ fX5_isDebt τ a = some 1 := by
  obtain ⟨v1, v2, v3, v4, v5, v6, v7, v8⟩ := h.2.2.2.1
  obtain ⟨o1, o2, o3, o4, o5, o6, o7⟩ := h.2.2.2.2.1
  unfold fX3_isDebt fX5_isDebt
  rw [v1, v5, o4]
  rcases in_place a (td τ) (by omega) with ⟨g, e | ⟨e1, e2⟩⟩ | ⟨j, hj, rfl, g, e1, e2⟩
  · left
    rw [g, if_pos e]
    simp only [obind_some, nar0, if_true, and_self]
  · left
    rw [g, if_neg e1]
    simp only [obind_some, nar0, if_true, e2, and_self]
  · right
    refine ⟨j, hj, rfl, ?_, ?_⟩
    · rw [if_neg e1]
      simp only [e2, if_false, if_true]
    · rw [g]
      simp only [obind_some, nar1, if_true]
theorem isHour_cases (a : Int32) : (fX4_isHour a = some 0 ∧ fX5_isHour a = some 0) ∨ ∃ t, t < 12 ∧ a = nI t ∧ fX4_isHour a = some 1 ∧ fX5_isHour a = some 1 := by
  unfold fX4_isHour fX5_isHour
  have e11 : (11 : Int32) = nI 12 - 1 := by decide
  rw [e11]
  rcases in_place a 12 (by omega) with ⟨g, e | ⟨e1, e2⟩⟩ | ⟨j, hj, rfl, g, e1, e2⟩
  · left
    rw [g, if_pos e]
    simp only [obind_some, nar0, if_true, and_self]
  · left
    have e2 : (12 : Int32) ≤ a := e2
    rw [g, if_neg e1, if_pos e2]
    simp only [obind_some, nar0, if_true, and_self]
  · right
    have e2 : ¬ (12 : Int32) ≤ nI j := e2
    refine ⟨j, hj, rfl, ?_, ?_⟩
    · rw [if_neg e1, if_neg e2]
    · rw [g]
      simp only [obind_some, nar1, if_true]
theorem n4 {k : Nat} (j : Nat) {c : Int32} (hc : c = nI j) : (4 : Int32) * nI k + c = nI (4 * k + j) := by
  rw [hc, show (4 : Int32) = nI 4 from rfl, pk_mul, nI_add]
theorem n5 {k : Nat} (j : Nat) {c : Int32} (hc : c = nI j) : (5 : Int32) * nI k + c = nI (5 * k + j) := by
  rw [hc, show (5 : Int32) = nI 5 from rfl, pk_mul, nI_add]
theorem debtAt_eq {τ : pS} {d j : Nat} (hd : d < 8) (hj : j < 5) {c : Int32} (hc : c = nI j) : fX5_debtAt τ (nI d) c = some (pI τ 8 (5 * d + j)) := by
  unfold fX5_debtAt
  rw [n5 j hc, pin_lit (show 5 * d + j < 40 by omega) (by decide), nI_clamp (by omega)]
  simp
theorem o_findings : op_findings RR := by
  intro σ τ a h
  unfold fX4_findings fX5_findings
  by_cases h1 : a < 1
  · refine ⟨-1, by rw [if_pos h1], ?_, h⟩
    unfold fX5_in
    rw [if_pos h1]
    rfl
  · rw [if_neg h1]
    rcases rng a 5 (by decide) with g | ⟨g1, g2, g3⟩ | ⟨k, hk, rfl, g1, g2, g3⟩
    · refine absurd ?_ h1
      rw [Int32.lt_iff_toInt_lt] at g ⊢
      have e1 : (1 : Int32).toInt = 1 := by decide
      have e0 : (0 : Int32).toInt = 0 := by decide
      omega
    · have g2 : ¬ a ≤ (5 : Int32) := g2
      have g3 : (5 : Int32) < a := g3
      exact ⟨-1, by rw [if_neg g2], by rw [in_big g3]; rfl, h⟩
    · have g2 : nI k ≤ (5 : Int32) := g2
      have g3 : ¬ (5 : Int32) < nI k := g3
      refine ⟨pI σ 8 k, ?_, ?_, h⟩
      · rw [if_pos g2, pin_lit (show k < 6 by omega) (by decide), nI_clamp (by omega)]
        simp
      · rw [in_yes h1 g3, pin_lit (show k < 6 by omega) (by decide), nI_clamp (by omega), h.1.2.2.2.2 k (by omega)]
        simp [obind_some]
theorem o_one : op_one RR := by
  intro σ τ a b h
  obtain ⟨v1, v2, v3, v4, v5, v6, v7, v8⟩ := h.2.2.2.1
  obtain ⟨q1, q2, q3, q4, q5, q6, q7⟩ := h.2.2.2.2.1
  have v1' : isV (pR σ 0 8) = true := v1
  unfold fX4_one fX5_one
  rw [v1']
  rcases isOne_cases h a with ⟨g1, g2⟩ | ⟨p, hp, rfl, g1, g2⟩
  · have g1 : fX3_isPerson σ (pR σ 0 8) a = some 0 := g1
    exact ⟨-1, σ, τ, by rw [g1]; rfl, by rw [g2]; rfl, h⟩
  · have g1 : fX3_isPerson σ (pR σ 0 8) (nI p) = some 1 := g1
    rw [g1, g2]
    simp only [obind_some, i10, if_false, if_true]
    rcases rng b 3 (by decide) with g | ⟨c1, c2, c3⟩ | ⟨k, hk, rfl, c1, c2, c3⟩
    · exact ⟨-1, σ, τ, by rw [if_pos g], by rw [in_neg g]; rfl, h⟩
    · have c2 : ¬ b ≤ (3 : Int32) := c2
      have c3 : (3 : Int32) < b := c3
      exact ⟨-1, σ, τ, by rw [if_neg c1, if_neg c2], by rw [in_big c3]; rfl, h⟩
    · have c2 : nI k ≤ (3 : Int32) := c2
      have c3 : ¬ (3 : Int32) < nI k := c3
      have hv7 := v7 p hp
      rw [if_neg c1, if_pos c2, in_yes c1 c3]
      simp only [obind_some, i10, if_false, n4 k rfl, pin_lit (show 4 * p + k < 24 by omega) (by decide), nI_clamp (show 4 * p + k < 2 ^ 31 by omega), if_true, tells_eq, pbind_some]
      have e : fX3_ofPerson σ (pR σ 0 8) (nI p) (nI k) = some (pI τ 7 (4 * p + k)) := by
        unfold fX3_ofPerson
        rw [v1', pin_lit (show p < 6 by omega) (by decide), nI_clamp (show p < 2 ^ 31 by omega)]
        rcases (show k = 0 ∨ k = 1 ∨ k = 2 ∨ k = 3 by omega) with rfl | rfl | rfl | rfl
        · rw [if_pos (by decide)]; exact congrArg some hv7.1
        · rw [if_neg (by decide), if_pos (by decide)]; exact congrArg some hv7.2.1
        · rw [if_neg (by decide), if_neg (by decide), if_pos (by decide)]; exact congrArg some hv7.2.2.1
        · rw [if_neg (by decide), if_neg (by decide), if_neg (by decide)]; exact congrArg some hv7.2.2.2
      rw [e]
      exact ⟨1, _, _, rfl, rfl, RR_told h _⟩
theorem o_debt : op_debt RR := by
  intro σ τ a b h
  obtain ⟨v1, v2, v3, v4, v5, v6, v7, v8⟩ := h.2.2.2.1
  obtain ⟨q1, q2, q3, q4, q5, q6, q7⟩ := h.2.2.2.2.1
  have v1' : isV (pR σ 0 8) = true := v1
  unfold fX4_debt fX5_debt
  rw [v1']
  rcases isDebt_cases h a with ⟨g1, g2⟩ | ⟨p, hp, rfl, g1, g2⟩
  · have g1 : fX3_isDebt σ (pR σ 0 8) a = some 0 := g1
    exact ⟨-1, σ, τ, by rw [g1]; rfl, by rw [g2]; rfl, h⟩
  · have g1 : fX3_isDebt σ (pR σ 0 8) (nI p) = some 1 := g1
    rw [g1, g2]
    simp only [obind_some, i10, if_false, if_true]
    rcases rng b 4 (by decide) with g | ⟨c1, c2, c3⟩ | ⟨k, hk, rfl, c1, c2, c3⟩
    · exact ⟨-1, σ, τ, by rw [if_pos g], by rw [in_neg g]; rfl, h⟩
    · have c2 : ¬ b ≤ (4 : Int32) := c2
      have c3 : (4 : Int32) < b := c3
      exact ⟨-1, σ, τ, by rw [if_neg c1, if_neg c2], by rw [in_big c3]; rfl, h⟩
    · have c2 : nI k ≤ (4 : Int32) := c2
      have c3 : ¬ (4 : Int32) < nI k := c3
      have hv8 := v8 p hp
      rw [if_neg c1, if_pos c2, in_yes c1 c3]
      simp only [obind_some, i10, if_false, debtAt_eq (show p < 8 by omega) (show k < 5 by omega) rfl, tells_eq, pbind_some]
      have e : fX4_ofDebt σ (nI p) (nI k) = some (pI τ 8 (5 * p + k)) := by
        unfold fX4_ofDebt
        rw [v1', pin_lit (show p < 8 by omega) (by decide), nI_clamp (show p < 2 ^ 31 by omega)]
        rcases (show k = 0 ∨ k = 1 ∨ k = 2 ∨ k = 3 ∨ k = 4 by omega) with rfl | rfl | rfl | rfl | rfl
        · rw [if_pos (by decide)]; exact congrArg some hv8.1
        · rw [if_neg (by decide), if_pos (by decide)]; exact congrArg some hv8.2.1
        · rw [if_neg (by decide), if_neg (by decide), if_pos (by decide)]; exact congrArg some hv8.2.2.1
        · rw [if_neg (by decide), if_neg (by decide), if_neg (by decide), if_pos (by decide)]; exact congrArg some hv8.2.2.2.1
        · rw [if_neg (by decide), if_neg (by decide), if_neg (by decide), if_neg (by decide)]; exact congrArg some hv8.2.2.2.2
      rw [e]
      exact ⟨1, _, _, rfl, rfl, RR_told h _⟩
