/-! PURE: empty, when, pay -/
theorem emptyHours_eq {σ τ : pS} (h : RR σ τ) {p : Nat} (hp : p < tn τ) {N : Nat} (hN : N = 12) : fX3_emptyHours σ (pR σ 0 8) (nI p) = some (nI (bset (fun t => emptyB τ (outB τ t) p t) N)) := by
  have v1 : isV (pR σ 0 8) = true := h.2.2.2.1.1
  have ho := h.2.2.2.2.1
  have n12 : (12 : Int32) = nI N := by rw [hN]; rfl
  unfold fX3_emptyHours
  refine whF (fun F (a : Int32) v => lX3_emptyHours_4 σ (pR σ 0 8) (nI p) (fun y3 => some y3) F a v) (n := N) (by omega) (fun j => nI (bset (fun t => emptyB τ (outB τ t) p t) j)) _ (fun F => ?_) (fun F j hj => ?_)
  · show lX3_emptyHours_4 σ _ _ _ (F + 1) _ _ = _
    rw [lX3_emptyHours_4.eq_2, n12, if_pos (nI_le (Nat.le_refl _) (by omega))]
  · show lX3_emptyHours_4 σ _ _ _ (F + 1) _ _ = _
    have hl := outS_lt ho j
    have hj' : j < 12 := by omega
    rw [lX3_emptyHours_4.eq_2, v1, n12, if_neg (nI_nge hj (by omega)), if_pos rfl, peopleOut_eq h hj', obind_some, countsAsEmpty_eq h hp hj' (by omega), emptyB_congr ho (fun p hp => outS_bit hp) hp]
    simp only [obind_some, plet_eq, nI_1, b2i_0]
    cases q : emptyB τ (outB τ j) p j
    · simp only [if_true]; rw [bset_f (f := fun t => emptyB τ (outB τ t) p t) q]
    · simp only [Bool.true_eq_false, if_false]; rw [bset_t (f := fun t => emptyB τ (outB τ t) p t) (by omega) q]
theorem mempty_eq {τ : pS} (ho : Ro τ) {p : Nat} (hp : p < tn τ) {N : Nat} (hN : N = 12) (k : Int32 → Option Int32) : lX5_empty_14 τ (nI p) k FU 0 0 = k (nI (bset (fun t => emptyB τ (outB τ t) p t) N)) := by
  have n12 : (12 : Int32) = nI N := by rw [hN]; rfl
  refine whF (fun F (a : Int32) v => lX5_empty_14 τ (nI p) k F a v) (n := N) (by omega) (fun j => nI (bset (fun t => emptyB τ (outB τ t) p t) j)) _ (fun F => ?_) (fun F j hj => ?_)
  · show lX5_empty_14 τ _ _ (F + 1) _ _ = _
    rw [lX5_empty_14.eq_2, n12, if_pos (nI_le (Nat.le_refl _) (by omega))]
  · show lX5_empty_14 τ _ _ (F + 1) _ _ = _
    rw [lX5_empty_14.eq_2, n12, if_neg (nI_nge hj (by omega)), isEmpty_eq ho hp (by omega)]
    simp only [obind_some, plet_eq, nI_1, b2i_0]
    cases q : emptyB τ (outB τ j) p j
    · simp only [if_true, or_0]; rw [bset_f (f := fun t => emptyB τ (outB τ t) p t) q]
    · simp only [Bool.true_eq_false, if_false]; rw [bset_t (f := fun t => emptyB τ (outB τ t) p t) (by omega) q]
theorem payableHours_eq {σ τ : pS} (h : RR σ τ) {d : Nat} (hd : d < td τ) {N : Nat} (hN : N = 12) : fX3_payableHours σ (pR σ 0 8) (nI d) = some (nI (bset (fun t => payB τ (outB τ t) d t) N)) := by
  have v1 : isV (pR σ 0 8) = true := h.2.2.2.1.1
  have n12 : (12 : Int32) = nI N := by rw [hN]; rfl
  unfold fX3_payableHours
  refine whF (fun F (a : Int32) v => lX3_payableHours_4 σ (pR σ 0 8) (nI d) (fun y3 => some y3) F a v) (n := N) (by omega) (fun j => nI (bset (fun t => payB τ (outB τ t) d t) j)) _ (fun F => ?_) (fun F j hj => ?_)
  · show lX3_payableHours_4 σ _ _ _ (F + 1) _ _ = _
    rw [lX3_payableHours_4.eq_2, n12, if_pos (nI_le (Nat.le_refl _) (by omega))]
  · show lX3_payableHours_4 σ _ _ _ (F + 1) _ _ = _
    have hj' : j < 12 := by omega
    rw [lX3_payableHours_4.eq_2, v1, n12, if_neg (nI_nge hj (by omega)), if_pos rfl, peopleOut_eq h hj', obind_some, xpay_eq h hd hj']
    simp only [obind_some, plet_eq, nI_1, b2i_0]
    cases q : payB τ (outB τ j) d j
    · simp only [if_true]; rw [bset_f (f := fun t => payB τ (outB τ t) d t) q]
    · simp only [Bool.true_eq_false, if_false]; rw [bset_t (f := fun t => payB τ (outB τ t) d t) (by omega) q]
theorem mwhen_eq {τ : pS} (ho : Ro τ) {d : Nat} (hd : d < td τ) {N : Nat} (hN : N = 12) (k : Int32 → Option Int32) : lX5_when_14 τ (nI d) k FU 0 0 = k (nI (bset (fun t => payB τ (outB τ t) d t) N)) := by
  have n12 : (12 : Int32) = nI N := by rw [hN]; rfl
  refine whF (fun F (a : Int32) v => lX5_when_14 τ (nI d) k F a v) (n := N) (by omega) (fun j => nI (bset (fun t => payB τ (outB τ t) d t) j)) _ (fun F => ?_) (fun F j hj => ?_)
  · show lX5_when_14 τ _ _ (F + 1) _ _ = _
    rw [lX5_when_14.eq_2, n12, if_pos (nI_le (Nat.le_refl _) (by omega))]
  · show lX5_when_14 τ _ _ (F + 1) _ _ = _
    rw [lX5_when_14.eq_2, n12, if_neg (nI_nge hj (by omega)), canPay_eq ho hd (by omega)]
    simp only [obind_some, plet_eq, nI_1, b2i_0]
    cases q : payB τ (outB τ j) d j
    · simp only [if_true, or_0]; rw [bset_f (f := fun t => payB τ (outB τ t) d t) q]
    · simp only [Bool.true_eq_false, if_false]; rw [bset_t (f := fun t => payB τ (outB τ t) d t) (by omega) q]
theorem o_empty : op_empty RR := by
  intro σ τ a h
  have v1 : isV (pR σ 0 8) = true := h.2.2.2.1.1
  unfold fX4_empty fX5_empty
  rw [v1]
  rcases isOne_cases h a with ⟨g1, g2⟩ | ⟨p, hp, rfl, g1, g2⟩
  · have g1 : fX3_isPerson σ (pR σ 0 8) a = some 0 := g1
    exact ⟨-1, by rw [g1]; rfl, by rw [g2]; rfl, h⟩
  have g1 : fX3_isPerson σ (pR σ 0 8) (nI p) = some 1 := g1
  obtain ⟨N, hN⟩ : ∃ N, N = 12 := ⟨12, rfl⟩
  refine ⟨nI (bset (fun t => emptyB τ (outB τ t) p t) N), ?_, ?_, h⟩
  · rw [if_pos rfl, g1, obind_some, if_neg i10, emptyHours_eq h hp hN, obind_some]
  · rw [g2, obind_some, if_neg i10, mempty_eq h.2.2.2.2.1 hp hN]
theorem o_when : op_when RR := by
  intro σ τ a h
  have v1 : isV (pR σ 0 8) = true := h.2.2.2.1.1
  unfold fX4_when fX5_when
  rw [v1]
  rcases isDebt_cases h a with ⟨g1, g2⟩ | ⟨p, hp, rfl, g1, g2⟩
  · have g1 : fX3_isDebt σ (pR σ 0 8) a = some 0 := g1
    exact ⟨-1, by rw [g1]; rfl, by rw [g2]; rfl, h⟩
  have g1 : fX3_isDebt σ (pR σ 0 8) (nI p) = some 1 := g1
  obtain ⟨N, hN⟩ : ∃ N, N = 12 := ⟨12, rfl⟩
  refine ⟨nI (bset (fun t => payB τ (outB τ t) p t) N), ?_, ?_, h⟩
  · rw [if_pos rfl, g1, obind_some, if_neg i10, payableHours_eq h hp hN, obind_some]
  · rw [g2, obind_some, if_neg i10, mwhen_eq h.2.2.2.2.1 hp hN]
def clashN (τ : pS) (d e : Nat) : Bool := decide (fN τ d = fN τ e) || decide (tN τ d = tN τ e)
theorem clashT_N {τ : pS} (h : Ro τ) {d e : Nat} (hd : d < td τ) (he : e < td τ) : clashT τ d e = clashN τ d e := by
  have o1 := h.1
  obtain ⟨⟨a1, a2⟩, ⟨b1, b2⟩, -⟩ := dN_ok h hd
  obtain ⟨⟨c1, c2⟩, ⟨d1, d2⟩, -⟩ := dN_ok h he
  unfold clashT clashN
  rw [a1, b1, c1, d1]
  simp only [nI_eq (show fN τ d < 2 ^ 31 by omega) (show fN τ e < 2 ^ 31 by omega), nI_eq (show tN τ d < 2 ^ 31 by omega) (show tN τ e < 2 ^ 31 by omega)]
theorem clash_eq {σ τ : pS} (h : RR σ τ) {d e : Nat} (hd : d < td τ) (he : e < td τ) : fX3_clash σ (pR σ 0 8) (nI d) (nI e) = some (b2i (clashN τ d e)) := by
  have v1 : isV (pR σ 0 8) = true := h.2.2.2.1.1
  have o2 := h.2.2.2.2.1.2.1
  have a0 : pI σ (pR σ 0 8 + 5) d = pI τ 8 (5 * d) := (h.2.2.2.1.2.2.2.2.2.2.2 d hd).1
  have b0 : pI σ (pR σ 0 8 + 5) e = pI τ 8 (5 * e) := (h.2.2.2.1.2.2.2.2.2.2.2 e he).1
  have a1 : pI σ (pR σ 0 8 + 6) d = pI τ 8 (5 * d + 1) := (h.2.2.2.1.2.2.2.2.2.2.2 d hd).2.1
  have b1 : pI σ (pR σ 0 8 + 6) e = pI τ 8 (5 * e + 1) := (h.2.2.2.1.2.2.2.2.2.2.2 e he).2.1
  rw [← clashT_N h.2.2.2.2.1 hd he]
  unfold fX3_clash clashT
  rw [v1, pin_lit (show d < 8 by omega) (by decide), pin_lit (show e < 8 by omega) (by decide), nI_clamp (by omega), nI_clamp (by omega), a0, b0, a1, b1]
  by_cases q1 : pI τ 8 (5 * d) = pI τ 8 (5 * e)
  · simp [q1, b2i]
  · by_cases q2 : pI τ 8 (5 * d + 1) = pI τ 8 (5 * e + 1)
    · simp [q1, q2, b2i]
    · simp [q1, q2, b2i]
/-- some debt below n was paid in this hour and clashes with d -/
def takenB (τ : pS) (d : Nat) (t : Nat) : Nat → Bool
  | 0 => false
  | n + 1 => takenB τ d t n || (decide (pI τ 8 (5 * n + 4) = nI t) && clashN τ d n)
theorem takenB_yes {τ : pS} {d t j n : Nat} (h : j < n) (h1 : pI τ 8 (5 * j + 4) = nI t) (h2 : clashN τ d j = true) : takenB τ d t n = true := by
  induction n with
  | zero => omega
  | succ n ih =>
    unfold takenB
    by_cases e : j = n
    · subst e; simp [h1, h2]
    · rw [ih (by omega)]; rfl
theorem clashN_comm (τ : pS) (d e : Nat) : clashN τ d e = clashN τ e d := by
  unfold clashN
  congr 1 <;> exact decide_eq_decide.mpr ⟨Eq.symm, Eq.symm⟩
theorem isTakenBy_eq {σ τ : pS} (h : RR σ τ) {d : Nat} (hd : d < td τ) (t : Nat) : fX4_isTakenBy σ (nI d) (nI t) = some (b2i (takenB τ d t (td τ))) := by
  have v1 : isV (pR σ 0 8) = true := h.2.2.2.1.1
  have o2 := h.2.2.2.2.1.2.1
  have v5 : pI σ (pR σ 0 8) 1 = nI (td τ) := (h.2.2.2.1.2.2.2.2.1).trans h.2.2.2.2.1.2.2.2.1
  unfold fX4_isTakenBy
  refine whP (fun F (_ : Unit) v => lX4_isTakenBy_2 σ (nI d) (nI t) (some 0) F v) (n := td τ) (by omega) (fun j _ => takenB τ d t j = false) (fun o => o = some (b2i (takenB τ d t (td τ)))) () rfl (fun F _ hI => ?_) (fun F _ j hj hI => ?_)
  · show lX4_isTakenBy_2 σ _ _ _ (F + 1) _ = _
    rw [lX4_isTakenBy_2.eq_2, v1, v5, if_pos rfl, if_pos (nI_le (Nat.le_refl _) (by omega)), hI]
    rfl
  · have w5 : pI σ 9 j = pI τ 8 (5 * j + 4) := (h.2.2.2.1.2.2.2.2.2.2.2 j hj).2.2.2.2
    have e : lX4_isTakenBy_2 σ (nI d) (nI t) (some 0) (F + 1) (nI j) = if pI τ 8 (5 * j + 4) = nI t then (if clashN τ d j = false then lX4_isTakenBy_2 σ (nI d) (nI t) (some 0) F (nI (j + 1)) else some 1) else lX4_isTakenBy_2 σ (nI d) (nI t) (some 0) F (nI (j + 1)) := by
      rw [lX4_isTakenBy_2.eq_2, v1, v5, if_pos rfl, if_neg (nI_nge (by omega) (by omega)), pin_lit (show j < 8 by omega) (by decide), nI_clamp (by omega), w5, clash_eq h hd hj]
      simp only [if_true, obind_some, b2i_0, nI_1]
    by_cases q1 : pI τ 8 (5 * j + 4) = nI t
    · cases q2 : clashN τ d j
      · left
        refine ⟨(), ?_, ?_⟩
        · show lX4_isTakenBy_2 σ _ _ _ (F + 1) _ = _
          rw [e, if_pos q1, if_pos q2]
        · unfold takenB; rw [hI, q2]; simp
      · right
        show lX4_isTakenBy_2 σ _ _ _ (F + 1) _ = _
        rw [e, if_pos q1, if_neg (by rw [q2]; decide), takenB_yes hj q1 q2]
        rfl
    · left
      refine ⟨(), ?_, ?_⟩
      · show lX4_isTakenBy_2 σ _ _ _ (F + 1) _ = _
        rw [e, if_neg q1]
      · unfold takenB; rw [hI]; simp [q1]
theorem mtaken {τ : pS} (h : Ro τ) {d : Nat} (hd : d < td τ) (t : Nat) (b : Bool) (k : Int32 → Option (Int32 × pS)) : lX5_pay_46 τ (nI d) (nI t) k FU (b2i b) 0 = k (b2i (b && !takenB τ d t (td τ))) := by
  have o1 := h.1
  have o2 := h.2.1
  have o4 := h.2.2.2.1
  have g0 : (fun j => b2i (b && !takenB τ d t j)) 0 = b2i b := by simp [takenB]
  rw [← g0]
  refine whF (fun F (a : Int32) v => lX5_pay_46 τ (nI d) (nI t) k F a v) (n := td τ) (by omega) (fun j => b2i (b && !takenB τ d t j)) _ (fun F => ?_) (fun F j hj => ?_)
  · show lX5_pay_46 τ _ _ _ (F + 1) _ _ = _
    rw [lX5_pay_46.eq_2, o4, if_pos (nI_le (Nat.le_refl _) (by omega))]
  · show lX5_pay_46 τ _ _ _ (F + 1) _ _ = _
    have hd8 : d < 8 := by omega
    have hj8 : j < 8 := by omega
    obtain ⟨⟨a1, a2⟩, ⟨b1, b2⟩, -⟩ := dN_ok h hd
    obtain ⟨⟨c1, c2⟩, ⟨d1, d2⟩, -⟩ := dN_ok h hj
    rw [lX5_pay_46.eq_2, o4, if_neg (nI_nge (by omega) (by omega)), debt0 h hd, debt1 h hd, debt0 h hj, debt1 h hj, debtAt_eq hj8 (show 4 < 5 by decide) (show (4 : Int32) = nI 4 from rfl)]
    simp only [plet_eq, nI_1, b2i_0, obind_some, nI_eq (show fN τ j < 2 ^ 31 by omega) (show fN τ d < 2 ^ 31 by omega), nI_eq (show tN τ j < 2 ^ 31 by omega) (show tN τ d < 2 ^ 31 by omega)]
    have e1 : takenB τ d t (j + 1) = (takenB τ d t j || (decide (pI τ 8 (5 * j + 4) = nI t) && clashN τ d j)) := rfl
    have e2 : clashN τ d j = (decide (fN τ j = fN τ d) || decide (tN τ j = tN τ d)) := by rw [clashN_comm]; rfl
    cases q0 : (b && !takenB τ d t j)
    · have : (b && !takenB τ d t (j + 1)) = false := by
        rw [e1]
        cases b
        · rfl
        · cases hT : takenB τ d t j
          · rw [hT] at q0; simp at q0
          · rfl
      rw [this, if_pos rfl]
      rfl
    · have qb : b = true := by cases b <;> simp_all
      have qt : takenB τ d t j = false := by cases hT : takenB τ d t j <;> simp_all
      rw [if_neg (by decide), e1, e2, qt, qb]
      by_cases z1 : pI τ 8 (5 * j + 4) = nI t
      · rw [if_pos z1]
        by_cases z2 : fN τ j = fN τ d
        · rw [if_pos z2]; simp [z1, z2, b2i]
        · rw [if_neg z2]
          by_cases z3 : tN τ j = tN τ d
          · rw [if_pos z3]; simp [z1, z3, b2i]
          · rw [if_neg z3]; simp [z2, z3, b2i]
      · rw [if_neg z1]; simp [z1, b2i]
theorem mtaken0 {τ : pS} (h : Ro τ) {d : Nat} (hd : d < td τ) (t : Nat) (k : Int32 → Option (Int32 × pS)) : lX5_pay_46 τ (nI d) (nI t) k FU 0 0 = k 0 := mtaken h hd t false k
theorem mtaken1 {τ : pS} (h : Ro τ) {d : Nat} (hd : d < td τ) (t : Nat) (k : Int32 → Option (Int32 × pS)) : lX5_pay_46 τ (nI d) (nI t) k FU 1 0 = k (b2i (!takenB τ d t (td τ))) := by
  have := mtaken h hd t true k
  rwa [b2i_t, Bool.true_and] at this
theorem costI_set {τ : pS} {d e : Nat} {x y : Int32} : costI (sI τ 8 (5 * d + 4) x) e y = costI τ e y := by
  unfold costI
  rw [pI_sI_nj (by omega), pI_sI_nj (by omega)]
theorem o_pay : op_pay RR := by
  intro σ τ a b h
  have v1 : isV (pR σ 0 8) = true := h.2.2.2.1.1
  have o2 := h.2.2.2.2.1.2.1
  have ho := h.2.2.2.2.1
  unfold fX4_pay fX5_pay
  rw [v1]
  rcases isDebt_cases h a with ⟨g1, g2⟩ | ⟨d, hd, rfl, g1, g2⟩
  · have g1 : fX3_isDebt σ (pR σ 0 8) a = some 0 := g1
    exact ⟨-1, σ, τ, by rw [g1]; rfl, by rw [g2]; rfl, h⟩
  have g1 : fX3_isDebt σ (pR σ 0 8) (nI d) = some 1 := g1
  rw [g1, g2]
  simp only [obind_some, i10, if_false, if_true]
  rcases isHour_cases b with ⟨g1, g2⟩ | ⟨t, ht, rfl, g1, g2⟩
  · exact ⟨-1, σ, τ, by rw [g1]; rfl, by rw [g2]; rfl, h⟩
  have hd8 : d < 8 := by omega
  have w5 : pI σ 9 d = pI τ 8 (5 * d + 4) := (h.2.2.2.1.2.2.2.2.2.2.2 d hd).2.2.2.2
  rw [g1, g2, isPaid_eq hd8, debtAt_eq hd8 (show 4 < 5 by decide) (show (4 : Int32) = nI 4 from rfl), peopleOut_eq h ht, canPay_eq ho hd ht, w5]
  have z0 : (0 : Int32) = b2i false := rfl
  simp only [obind_some, i10, if_false, plet_eq, xpay_eq h hd ht, isTakenBy_eq h hd t]
  by_cases q1 : pI τ 8 (5 * d + 4) = -9
  · simp only [q1, if_true]
    cases q2 : payB τ (outB τ t) d t
    · simp only [b2i_f, if_true]
      refine ⟨-4, σ, τ, rfl, ?_, h⟩
      rw [mtaken0 ho hd t, if_pos rfl]
    · simp only [b2i_t, i10, if_false]
      rw [mtaken1 ho hd t]
      cases q3 : takenB τ d t (td τ)
      · have hR := RR_paid h hd (x := nI t) (Or.inr ⟨t, ht, rfl⟩)
        have ed : td (sI τ 8 (5 * d + 4) (nI t)) = td τ := by unfold td; rw [pI_sI_ne (by decide)]
        have v1' : isV (pR (sI σ 9 d (nI t)) 0 8) = true := v1
        have ec := cost_eq hR (d := d) (by rw [ed]; exact hd) (nI t)
        rw [if_neg (nI_ne_m9 (show t < 2 ^ 31 by omega))] at ec
        simp only [b2i_f, if_true, pin_lit hd8 (show 8 ≤ 2 ^ 31 by decide), nI_clamp (show d < 2 ^ 31 by omega), v1', ec, obind_some, n5 4 (show (4 : Int32) = nI 4 from rfl), pin_lit (show 5 * d + 4 < 40 by omega) (show 40 ≤ 2 ^ 31 by decide), nI_clamp (show 5 * d + 4 < 2 ^ 31 by omega), costOf_eq hd8, Bool.not_false, b2i_t, i10, if_false]
        exact ⟨_, _, _, rfl, rfl, hR⟩
      · simp only [b2i_t, i10, if_false, Bool.not_true, b2i_f, if_true]
        exact ⟨-4, σ, τ, rfl, rfl, h⟩
  · simp only [q1, if_false, i10]
    refine ⟨-4, σ, τ, rfl, ?_, h⟩
    rw [mtaken0 ho hd t, if_pos rfl]
