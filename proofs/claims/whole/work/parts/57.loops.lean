/-! PURE: rules for loops; on, paid, against, mean, copy -/
theorem whf {α ρ : Type} (L : Nat → α → Int32 → Option ρ) (n : Nat) (g : Nat → α) (r : Option ρ) (he : ∀ F, L (F + 1) (g n) (nI n) = r) (hs : ∀ F j, j < n → L (F + 1) (g j) (nI j) = L F (g (j + 1)) (nI (j + 1))) : ∀ (q j F : Nat), j + q = n → q < F → L F (g j) (nI j) = r := by
  intro q
  induction q with
  | zero =>
    intro j F hj hF
    obtain ⟨F, rfl⟩ := fuel_s hF
    have : j = n := by omega
    subst this
    exact he F
  | succ q ih =>
    intro j F hj hF
    obtain ⟨F, rfl⟩ := fuel_s hF
    rw [hs F j (by omega)]
    exact ih (j + 1) F (by omega) (by omega)
theorem whF {α ρ : Type} (L : Nat → α → Int32 → Option ρ) {n : Nat} (hn : n < 1000) (g : Nat → α) (r : Option ρ) (he : ∀ F, L (F + 1) (g n) (nI n) = r) (hs : ∀ F j, j < n → L (F + 1) (g j) (nI j) = L F (g (j + 1)) (nI (j + 1))) : L FU (g 0) (nI 0) = r := whf L n g r he hs n 0 FU (by omega) (by simp [FU]; omega)
theorem whp {α ρ : Type} (L : Nat → α → Int32 → Option ρ) (n : Nat) (I : Nat → α → Prop) (P : Option ρ → Prop) (he : ∀ F a, I n a → P (L (F + 1) a (nI n))) (hs : ∀ F a j, j < n → I j a → (∃ a', L (F + 1) a (nI j) = L F a' (nI (j + 1)) ∧ I (j + 1) a') ∨ P (L (F + 1) a (nI j))) : ∀ (q j F : Nat) (a : α), j + q = n → q < F → I j a → P (L F a (nI j)) := by
  intro q
  induction q with
  | zero =>
    intro j F a hj hF hI
    obtain ⟨F, rfl⟩ := fuel_s hF
    have : j = n := by omega
    subst this
    exact he F a hI
  | succ q ih =>
    intro j F a hj hF hI
    obtain ⟨F, rfl⟩ := fuel_s hF
    rcases hs F a j (by omega) hI with ⟨a', h1, h2⟩ | h
    · rw [h1]
      exact ih (j + 1) F a' (by omega) (by omega) h2
    · exact h
theorem whP {α ρ : Type} (L : Nat → α → Int32 → Option ρ) {n : Nat} (hn : n < 1000) (I : Nat → α → Prop) (P : Option ρ → Prop) (a : α) (h0 : I 0 a) (he : ∀ F a, I n a → P (L (F + 1) a (nI n))) (hs : ∀ F a j, j < n → I j a → (∃ a', L (F + 1) a (nI j) = L F a' (nI (j + 1)) ∧ I (j + 1) a') ∨ P (L (F + 1) a (nI j))) : P (L FU a (nI 0)) := whp L n I P he hs n 0 FU a (by omega) (by simp [FU]; omega) h0
/-- a loop over a state: it ends in a state with the invariant -/
theorem whS {ρ : Type} (L : Nat → pS → Int32 → Option ρ) {n : Nat} (hn : n < 1000) (I : Nat → pS → Prop) (k : pS → Option ρ) (a : pS) (h0 : I 0 a) (he : ∀ F a, I n a → L (F + 1) a (nI n) = k a) (hs : ∀ F a j, j < n → I j a → ∃ a', L (F + 1) a (nI j) = L F a' (nI (j + 1)) ∧ I (j + 1) a') : ∃ a', L FU a (nI 0) = k a' ∧ I n a' :=
  whP L hn I (fun o => ∃ a', o = k a' ∧ I n a') a h0 (fun F a h => ⟨a, he F a h, h⟩) (fun F a j hj h => Or.inl (hs F a j hj h))
def sumI (f : Nat → Int32) : Nat → Int32
  | 0 => 0
  | n + 1 => sumI f n + f n
theorem sumI_congr {f g : Nat → Int32} : ∀ n, (∀ i, i < n → f i = g i) → sumI f n = sumI g n
  | 0, _ => rfl
  | n + 1, h => by unfold sumI; rw [sumI_congr n (fun i hi => h i (by omega)), h n (by omega)]
theorem i_add0 (a : Int32) : a + 0 = a := Int32.add_zero a
def costI (τ : pS) (d : Nat) (x : Int32) : Int32 := pI τ 8 (5 * d + 2) + x * pI τ 8 (5 * d + 3)
theorem cost_eq {σ τ : pS} (h : RR σ τ) {d : Nat} (hd : d < td τ) (x : Int32) : fX3_cost σ (pR σ 0 8) (nI d) x = some (costI τ d (if x = -9 then 12 else x)) := by
  have v1 : isV (pR σ 0 8) = true := h.2.2.2.1.1
  have o2 := h.2.2.2.2.1.2.1
  have w3 : pI σ (pR σ 0 8 + 7) d = pI τ 8 (5 * d + 2) := (h.2.2.2.1.2.2.2.2.2.2.2 d hd).2.2.1
  have w4 : pI σ (pR σ 0 8 + 8) d = pI τ 8 (5 * d + 3) := (h.2.2.2.1.2.2.2.2.2.2.2 d hd).2.2.2.1
  unfold fX3_cost
  rw [v1, pin_lit (show d < 8 by omega) (by decide), nI_clamp (by omega), w3, w4]
  simp only [if_true, plet_eq]
  by_cases e : x = -9
  · simp only [e, if_true]; rfl
  · simp only [e, if_false]; rfl
theorem costOf_eq {τ : pS} {d : Nat} (hd : d < 8) (x : Int32) : fX5_costOf τ (nI d) x = some (costI τ d x) := by
  unfold fX5_costOf
  rw [debtAt_eq hd (show 2 < 5 by decide) (show (2 : Int32) = nI 2 from rfl), debtAt_eq hd (show 3 < 5 by decide) (show (3 : Int32) = nI 3 from rfl)]
  rfl
def pdI (τ : pS) (d : Nat) : Int32 := if pI τ 8 (5 * d + 4) = -9 then 0 else costI τ d (pI τ 8 (5 * d + 4))
def npI (τ : pS) (d : Nat) : Int32 := if pI τ 8 (5 * d + 4) = -9 then costI τ d 12 else 0
theorem o_paid : op_paid RR := by
  intro σ τ h
  have v1 : isV (pR σ 0 8) = true := h.2.2.2.1.1
  have o2 := h.2.2.2.2.1.2.1
  have o4 := h.2.2.2.2.1.2.2.2.1
  have v5 : pI σ (pR σ 0 8) 1 = nI (td τ) := (h.2.2.2.1.2.2.2.2.1).trans o4
  have v8 := h.2.2.2.1.2.2.2.2.2.2.2
  unfold fX4_paid fX5_paid
  refine ⟨sumI (pdI τ) (td τ), sI σ 0 9 (sumI (npI τ) (td τ)), sI τ 0 2 (sumI (npI τ) (td τ)), ?_, ?_, RR_told h _⟩
  · refine whF (fun F (a : Int32 × Int32) v => lX4_paid_6 σ _ F a.1 a.2 v) (n := td τ) (by omega) (fun j => (sumI (pdI τ) j, sumI (npI τ) j)) _ (fun F => ?_) (fun F j hj => ?_)
    · show lX4_paid_6 σ _ (F + 1) _ _ _ = _
      rw [lX4_paid_6.eq_2, v1, v5, if_pos rfl, if_pos (nI_le (Nat.le_refl _) (by omega))]
      rfl
    · show lX4_paid_6 σ _ (F + 1) _ _ _ = _
      have w5 : pI σ 9 j = pI τ 8 (5 * j + 4) := (v8 j hj).2.2.2.2
      have hj8 : j < 8 := by omega
      rw [lX4_paid_6.eq_2, v1, v5, if_pos rfl, if_neg (nI_nge (by omega) (by omega)), pin_lit hj8 (by decide), if_pos rfl, nI_clamp (by omega), cost_eq h hj, isPaid_eq hj8]
      simp only [obind_some, plet_eq, nI_1, w5]
      by_cases e : pI τ 8 (5 * j + 4) = -9
      · simp only [e, if_true]
        rw [show sumI (pdI τ) (j + 1) = sumI (pdI τ) j by simp [sumI, pdI, e], show sumI (npI τ) (j + 1) = sumI (npI τ) j + costI τ j 12 by simp [sumI, npI, e]]
      · simp only [e, if_false, i10]
        rw [show sumI (npI τ) (j + 1) = sumI (npI τ) j by simp [sumI, npI, e], show sumI (pdI τ) (j + 1) = sumI (pdI τ) j + costI τ j (pI τ 8 (5 * j + 4)) by simp [sumI, pdI, e]]
  · refine whF (fun F (a : Int32 × Int32) v => lX5_paid_6 τ _ F a.1 a.2 v) (n := td τ) (by omega) (fun j => (sumI (pdI τ) j, sumI (npI τ) j)) _ (fun F => ?_) (fun F j hj => ?_)
    · show lX5_paid_6 τ _ (F + 1) _ _ _ = _
      rw [lX5_paid_6.eq_2, o4, if_pos (nI_le (Nat.le_refl _) (by omega))]
      rfl
    · show lX5_paid_6 τ _ (F + 1) _ _ _ = _
      have hj8 : j < 8 := by omega
      rw [lX5_paid_6.eq_2, o4, if_neg (nI_nge (by omega) (by omega)), debtAt_eq hj8 (show 4 < 5 by decide) (show (4 : Int32) = nI 4 from rfl)]
      simp only [obind_some, plet_eq, nI_1, costOf_eq hj8]
      by_cases e : pI τ 8 (5 * j + 4) = -9
      · simp only [e, if_true, sumI, pdI, npI]
      · simp only [e, if_false, i10, sumI, pdI, npI]
theorem o_against : op_against RR := by
  intro σ τ a b h
  have v1 : isV (pR σ 0 8) = true := h.2.2.2.1.1
  have o2 := h.2.2.2.2.1.2.1
  have v8 := h.2.2.2.1.2.2.2.2.2.2.2
  unfold fX4_against fX5_against
  rw [v1]
  rcases isDebt_cases h a with ⟨g1, g2⟩ | ⟨d, hd, rfl, g1, g2⟩
  · have g1 : fX3_isDebt σ (pR σ 0 8) a = some 0 := g1
    exact ⟨-1, σ, τ, by rw [g1]; rfl, by rw [g2]; rfl, h⟩
  have g1 : fX3_isDebt σ (pR σ 0 8) (nI d) = some 1 := g1
  rw [g1, g2]
  simp only [obind_some, i10, if_false, if_true]
  rcases isDebt_cases h b with ⟨g1, g2⟩ | ⟨e, he, rfl, g1, g2⟩
  · have g1 : fX3_isDebt σ (pR σ 0 8) b = some 0 := g1
    exact ⟨-1, σ, τ, by rw [g1]; rfl, by rw [g2]; rfl, h⟩
  have g1 : fX3_isDebt σ (pR σ 0 8) (nI e) = some 1 := g1
  rw [g1, g2]
  have hd8 : d < 8 := by omega
  have he8 : e < 8 := by omega
  obtain ⟨a0, a1, a2, a3, a4⟩ := v8 d hd
  obtain ⟨b0, b1, b2, b3, b4⟩ := v8 e he
  have a0 : pI σ (pR σ 0 8 + 5) d = pI τ 8 (5 * d) := a0
  have b0 : pI σ (pR σ 0 8 + 5) e = pI τ 8 (5 * e) := b0
  have a1 : pI σ (pR σ 0 8 + 6) d = pI τ 8 (5 * d + 1) := a1
  have b1 : pI σ (pR σ 0 8 + 6) e = pI τ 8 (5 * e + 1) := b1
  have a2 : pI σ (pR σ 0 8 + 7) d = pI τ 8 (5 * d + 2) := a2
  have b2 : pI σ (pR σ 0 8 + 7) e = pI τ 8 (5 * e + 2) := b2
  simp only [obind_some, i10, if_false, fX3_oweOneAnother, isPaid_eq hd8, isPaid_eq he8, v1, if_true, pin_lit hd8 (show 8 ≤ 2 ^ 31 by decide), pin_lit he8 (show 8 ≤ 2 ^ 31 by decide), nI_clamp (show d < 2 ^ 31 by omega), nI_clamp (show e < 2 ^ 31 by omega), a0, a1, a2, a4, b0, b1, b2, b4, plet_eq, tells_eq, pbind_some, debtAt_eq hd8 (show 0 < 5 by decide) (show (0 : Int32) = nI 0 from rfl), debtAt_eq hd8 (show 1 < 5 by decide) (show (1 : Int32) = nI 1 from rfl), debtAt_eq hd8 (show 2 < 5 by decide) (show (2 : Int32) = nI 2 from rfl), debtAt_eq hd8 (show 4 < 5 by decide) (show (4 : Int32) = nI 4 from rfl), debtAt_eq he8 (show 0 < 5 by decide) (show (0 : Int32) = nI 0 from rfl), debtAt_eq he8 (show 1 < 5 by decide) (show (1 : Int32) = nI 1 from rfl), debtAt_eq he8 (show 2 < 5 by decide) (show (2 : Int32) = nI 2 from rfl), debtAt_eq he8 (show 4 < 5 by decide) (show (4 : Int32) = nI 4 from rfl), Nat.add_zero]
  by_cases q0 : nI d = nI e
  · simp only [q0, if_true]
    exact ⟨-1, σ, τ, rfl, rfl, h⟩
  simp only [q0, if_false]
  by_cases q1 : pI τ 8 (5 * d) = pI τ 8 (5 * e + 1)
  · simp only [q1, if_true]
    by_cases q2 : pI τ 8 (5 * d + 1) = pI τ 8 (5 * e)
    · simp only [q2, if_true, i10, if_false, obind_some]
      by_cases q3 : pI τ 8 (5 * d + 4) = -9
      · simp only [q3, if_true, obind_some]
        by_cases q4 : pI τ 8 (5 * e + 4) = -9
        · simp only [q4, if_true]
          have z : (0 : Int32).toInt = 0 := by decide
          generalize hx : pI τ 8 (5 * d + 2) - pI τ 8 (5 * e + 2) = x
          by_cases q5 : x = 0
          · have z1 : (0 : Int32) ≤ x := by rw [Int32.le_iff_toInt_le, q5]; decide
            have z2 : x ≤ 0 := by rw [Int32.le_iff_toInt_le, q5]; decide
            simp only [z1, z2, if_true, q5]
            exact ⟨0, _, _, rfl, rfl, RR_told h _⟩
          · by_cases q6 : x ≤ 0
            · have z1 : ¬ (0 : Int32) ≤ x := fun z => q5 (by
                apply Int32.toInt_inj.mp
                rw [Int32.le_iff_toInt_le] at q6 z
                omega)
              simp only [q5, q6, z1, if_true, if_false]
              exact ⟨_, _, _, rfl, by rw [Int32.zero_sub], RR_told h _⟩
            · have z1 : (0 : Int32) ≤ x := by
                rw [Int32.le_iff_toInt_le] at q6 ⊢
                omega
              simp only [q5, q6, z1, if_true, if_false]
              exact ⟨_, _, _, rfl, rfl, RR_told h _⟩
        · simp only [q4, if_false, i10]
          exact ⟨-4, σ, τ, rfl, rfl, h⟩
      · simp only [q3, if_false, obind_some, i10]
        exact ⟨-4, σ, τ, rfl, rfl, h⟩
    · simp only [q2, if_false, obind_some, if_true]
      exact ⟨-4, σ, τ, rfl, rfl, h⟩
  · simp only [q1, if_false, obind_some, if_true]
    exact ⟨-4, σ, τ, rfl, rfl, h⟩
