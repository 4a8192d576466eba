/-! PURE: village -/
theorem clash_c {σ τ : pS} {w nd : Nat} (hw : isV w = true) (h8 : nd ≤ 8) (c5 : ∀ d, d < nd → pI σ (w + 5) d = pI τ 8 (5 * d)) (c6 : ∀ d, d < nd → pI σ (w + 6) d = pI τ 8 (5 * d + 1)) {d e : Nat} (hd : d < nd) (he : e < nd) : fX3_clash σ w (nI d) (nI e) = some (b2i (clashT τ d e)) := by
  unfold fX3_clash clashT
  rw [hw, pin_lit (show d < 8 by omega) (by decide), pin_lit (show e < 8 by omega) (by decide), nI_clamp (show d < 2 ^ 31 by omega), nI_clamp (show e < 2 ^ 31 by omega), c5 d hd, c5 e he, c6 d hd, c6 e he]
  by_cases q1 : pI τ 8 (5 * d) = pI τ 8 (5 * e)
  · simp [q1, b2i]
  · by_cases q2 : pI τ 8 (5 * d + 1) = pI τ 8 (5 * e + 1)
    · simp [q1, q2, b2i]
    · simp [q1, q2, b2i]
theorem fit_low {τ : pS} {s s' : Nat} (n : Nat) (h : ∀ i, i < n → s.testBit i = s'.testBit i) : fitT τ s n = fitT τ s' n := by
  induction n with
  | zero => rfl
  | succ n ih =>
    rw [fit_succ, fit_succ, ih (fun i hi => h i (by omega)), h n (by omega)]
    congr 1
    apply Bool.eq_iff_iff.mpr
    simp only [List.all_eq_true, List.mem_range]
    constructor
    · intro H e he
      rw [← h e (by omega)]; exact H e he
    · intro H e he
      rw [h e (by omega)]; exact H e he
theorem rate_low {τ : pS} {s s' : Nat} (n : Nat) (h : ∀ i, i < n → s.testBit i = s'.testBit i) : rateT τ s n = rateT τ s' n := by
  induction n with
  | zero => rfl
  | succ n ih => rw [rate_s, rate_s, ih (fun i hi => h i (by omega)), h n (by omega)]
theorem fit_0 {τ : pS} {s n : Nat} (h : s.testBit n = false) : fitT τ s (n + 1) = fitT τ s n := by
  have e : (List.range n).all (fun e => !(false && s.testBit e && clashT τ n e)) = true := List.all_eq_true.mpr (fun _ _ => rfl)
  rw [fit_succ, h, e, Bool.and_true]
theorem rate_0b {τ : pS} {s n : Nat} (h : s.testBit n = false) : rateT τ s (n + 1) = rateT τ s n := by
  rw [rate_s, h]
  rfl
theorem own_low {j o : Nat} : ∀ i, i < j → (2 ^ j ||| o).testBit i = o.testBit i := fun i hi => by
  rw [Nat.testBit_or, two_bit, decide_eq_false (by omega), Bool.false_or]
theorem own_at {j o : Nat} : (2 ^ j ||| o).testBit j = true := by rw [Nat.testBit_or, two_bit, decide_eq_true rfl, Bool.true_or]
theorem fit_own {τ : pS} {j o : Nat} : fitT τ (2 ^ j ||| o) (j + 1) = (fitT τ o j && decide (o &&& bset (fun e => clashT τ j e) j = 0)) := by
  rw [fit_succ, fit_low j own_low, own_at]
  congr 1
  apply Bool.eq_iff_iff.mpr
  simp only [List.all_eq_true, List.mem_range, Bool.true_and, decide_eq_true_eq]
  constructor
  · intro H
    apply Nat.eq_of_testBit_eq
    intro i
    rw [Nat.testBit_and, bset_bit, Nat.zero_testBit]
    by_cases hi : i < j
    · have := H i hi
      rw [own_low i hi] at this
      rw [decide_eq_true hi, Bool.true_and]
      revert this
      cases o.testBit i <;> cases clashT τ j i <;> simp
    · rw [decide_eq_false hi, Bool.false_and, Bool.and_false]
  · intro H e he
    rw [own_low e he]
    have := congrArg (fun x => Nat.testBit x e) H
    simp only [Nat.testBit_and, bset_bit, Nat.zero_testBit, decide_eq_true he, Bool.true_and] at this
    revert this
    cases o.testBit e <;> cases clashT τ j e <;> simp
theorem rate_own {τ : pS} {j o : Nat} : rateT τ (2 ^ j ||| o) (j + 1) = rateT τ o j + iN τ j := by
  rw [rate_s, rate_low j own_low, own_at]
  rfl
def FL (σ s : pS) : Prop := (∀ e i, e ≠ 12 → e ≠ 13 → pI s e i = pI σ e i) ∧ (∀ e i, pL s e i = pL σ e i) ∧ ∀ e i, pR s e i = pR σ e i
theorem FL_rf {σ : pS} : FL σ σ := ⟨fun _ _ _ _ => rfl, fun _ _ => rfl, fun _ _ => rfl⟩
theorem FL_tr {a b c : pS} (h1 : FL a b) (h2 : FL b c) : FL a c := ⟨fun e i q1 q2 => (h2.1 e i q1 q2).trans (h1.1 e i q1 q2), fun e i => (h2.2.1 e i).trans (h1.2.1 e i), fun e i => (h2.2.2 e i).trans (h1.2.2 e i)⟩
theorem FL_s {σ : pS} {e i : Nat} (he : e = 12 ∨ e = 13) {v : Int32} : FL σ (sI σ e i v) := ⟨fun e' j q1 q2 => pI_sI_ne (by omega), fun _ _ => rfl, fun _ _ => rfl⟩
theorem learn_clash {σ τ : pS} {w nd : Nat} (hw : isV w = true) (h8 : nd ≤ 8) (c5 : ∀ d, d < nd → pI σ (w + 5) d = pI τ 8 (5 * d)) (c6 : ∀ d, d < nd → pI σ (w + 6) d = pI τ 8 (5 * d + 1)) {j : Nat} (hj : j < nd) (k : Int32 → Option (Unit × pS)) : lX2_learn_35 σ w (nI j) k FU (nI 0) (nI 0) = k (nI (bset (fun e => clashT τ j e) j)) := by
  refine whF (fun F (a : Int32) v => lX2_learn_35 σ w (nI j) k F a v) (n := j) (by omega) (fun i => nI (bset (fun e => clashT τ j e) i)) _ (fun F => ?_) (fun F i hi => ?_)
  · show lX2_learn_35 σ _ _ _ (F + 1) _ _ = _
    rw [lX2_learn_35.eq_2, if_pos (nI_le (Nat.le_refl _) (by omega))]
  · show lX2_learn_35 σ _ _ _ (F + 1) _ _ = _
    rw [lX2_learn_35.eq_2, if_neg (nI_nge (by omega) (by omega)), hw, if_pos rfl, clash_c hw h8 c5 c6 hj (show i < nd by omega), obind_some]
    simp only [plet_eq, nI_1, b2i_0]
    cases q : clashT τ j i
    · simp only [if_true]; rw [bset_f (f := fun e => clashT τ j e) q]
    · simp only [Bool.true_eq_false, if_false]; rw [bset_t (f := fun e => clashT τ j e) (by omega) q]
theorem learn_own {σ τ : pS} {w nd : Nat} (hw : isV w = true) (h8 : nd ≤ 8) {j : Nat} (hj : j < nd) (c8 : pI σ (w + 8) j = nI (iN τ j)) (ht : ∀ s, s < 2 ^ j → pI σ 12 s = b2i (fitT τ s j) ∧ pI σ 13 s = nI (rateT τ s j)) (k : pS → Option (Unit × pS)) : ∃ σ', lX2_learn_72 w (nI j) (nI (bset (fun e => clashT τ j e) j)) (nI (2 ^ j)) k FU (nI 0) σ = k σ' ∧ FL σ σ' ∧ ∀ s, s < 2 ^ (j + 1) → pI σ' 12 s = b2i (fitT τ s (j + 1)) ∧ pI σ' 13 s = nI (rateT τ s (j + 1)) := by
  have w46 : 46 ≤ w := by rcases isV_or hw with e | e <;> omega
  have p8 : 2 ^ j ≤ 128 := pow_le31 (m := 7) (by omega)
  have ob : ∀ o, o < 2 ^ j → 2 ^ j ||| o = 2 ^ j + o := fun o ho => by
    have := Nat.two_pow_add_eq_or_of_lt ho 1
    simpa using this.symm
  obtain ⟨σ', h1, h2, h3, h4⟩ := whS (fun F s v => lX2_learn_72 w (nI j) (nI (bset (fun e => clashT τ j e) j)) (nI (2 ^ j)) k F v s) (n := 2 ^ j) (by omega) (fun m s => FL σ s ∧ (∀ x, x < 2 ^ j → pI s 12 x = pI σ 12 x ∧ pI s 13 x = pI σ 13 x) ∧ ∀ o, o < m → pI s 12 (2 ^ j ||| o) = b2i (fitT τ (2 ^ j ||| o) (j + 1)) ∧ pI s 13 (2 ^ j ||| o) = nI (rateT τ (2 ^ j ||| o) (j + 1))) k σ ⟨FL_rf, fun _ _ => ⟨rfl, rfl⟩, fun o ho => absurd ho (Nat.not_lt_zero o)⟩ (fun F s hs => by
      show lX2_learn_72 _ _ _ _ _ (F + 1) _ s = _
      rw [lX2_learn_72.eq_2, if_pos (nI_le (Nat.le_refl _) (by omega))]) (fun F s m hm hs => by
      have hl : 2 ^ j ||| m < 256 := by rw [ob m hm]; omega
      have al : m &&& bset (fun e => clashT τ j e) j < 2 ^ 31 := Nat.lt_of_le_of_lt Nat.and_le_left (by omega)
      refine ⟨sI (sI s 12 (2 ^ j ||| m) (b2i (fitT τ (2 ^ j ||| m) (j + 1)))) 13 (2 ^ j ||| m) (nI (rateT τ (2 ^ j ||| m) (j + 1))), ?_, FL_tr hs.1 (FL_tr (FL_s (Or.inl rfl)) (FL_s (Or.inr rfl))), fun x hx => ?_, fun o ho => ?_⟩
      · show lX2_learn_72 _ _ _ _ _ (F + 1) _ s = _
        rw [lX2_learn_72.eq_2, if_neg (nI_nge hm (by omega)), pin_lit (show m < 256 by omega) (by decide), if_pos rfl, nI_clamp (show m < 2 ^ 31 by omega), (hs.2.1 m hm).1, (ht m hm).1, q_or, q_and, pin_lit hl (by decide), nI_clamp (show 2 ^ j ||| m < 2 ^ 31 by omega), hw, pin_lit (show j < 8 by omega) (by decide), nI_clamp (show j < 2 ^ 31 by omega)]
        simp only [plet_eq, if_true, pI_sI_ne (show 13 ≠ 12 by decide), pI_sI_ne (show w + 8 ≠ 12 by omega), hs.1.1 (w + 8) j (by omega) (by omega), c8, (hs.2.1 m hm).2, (ht m hm).2, nI_add, nI_1, b2i_0, nI_lit al (show 0 < 2 ^ 31 by decide) (show (0 : Int32) = nI 0 from rfl), nar0, nar1]
        rw [fit_own, rate_own]
        cases fitT τ m j
        · simp [b2i]
        · by_cases z : m &&& bset (fun e => clashT τ j e) j = 0
          · simp [z, b2i]
          · simp [z, b2i]
      · rw [pI_sI_ne (by decide), pI_sI_nj (by rw [ob m hm]; omega), pI_sI_nj (by rw [ob m hm]; omega), pI_sI_ne (by decide)]
        exact hs.2.1 x hx
      · by_cases z : o = m
        · rw [z, pI_sI_ne (by decide), pI_sI_eq, pI_sI_eq]; exact ⟨rfl, rfl⟩
        · rw [pI_sI_ne (by decide), pI_sI_nj (by rw [ob m hm, ob o (by omega)]; omega), pI_sI_nj (by rw [ob m hm, ob o (by omega)]; omega), pI_sI_ne (by decide)]
          exact hs.2.2 o (by omega))
  refine ⟨σ', h1, h2, fun s hs => ?_⟩
  rw [Nat.pow_succ] at hs
  by_cases z : s < 2 ^ j
  · have b0 : s.testBit j = false := low_bit z (Nat.le_refl _)
    rw [(h3 s z).1, (h3 s z).2, fit_0 b0, rate_0b b0]
    exact ht s z
  · have e : s = 2 ^ j ||| (s - 2 ^ j) := by rw [ob (s - 2 ^ j) (by omega)]; omega
    rw [e]
    exact h4 (s - 2 ^ j) (by omega)
theorem learn_eq {σ τ : pS} {w nd : Nat} (hw : isV w = true) (h8 : nd ≤ 8) (hd : pI σ w 1 = nI nd) (c5 : ∀ d, d < nd → pI σ (w + 5) d = pI τ 8 (5 * d)) (c6 : ∀ d, d < nd → pI σ (w + 6) d = pI τ 8 (5 * d + 1)) (c8 : ∀ d, d < nd → pI σ (w + 8) d = nI (iN τ d)) (h0 : pI σ 12 0 = 1) (h1 : pI σ 13 0 = 0) : ∃ σ', fX2_learn σ w = some ((), σ') ∧ (∀ e i, e ≠ 12 → e ≠ 13 → e ≠ 3 → pI σ' e i = pI σ e i) ∧ (∀ e i, pL σ' e i = pL σ e i) ∧ (∀ e i, pR σ' e i = pR σ e i) ∧ pI σ' 3 0 = nI nd ∧ pI σ' 3 1 = nI (2 ^ nd - 1) ∧ ∀ s, s < 2 ^ nd → pI σ' 12 s = b2i (fitT τ s nd) ∧ pI σ' 13 s = nI (rateT τ s nd) := by
  have w46 : 46 ≤ w := by rcases isV_or hw with e | e <;> omega
  have p0 := Nat.two_pow_pos nd
  unfold fX2_learn
  rw [hw, if_pos rfl, hd]
  simp only [plet_eq]
  rw [pI_sI_eq, q_one (by omega), show (1 : Int32) = nI 1 from rfl, pk_sub (show 1 ≤ 2 ^ nd by omega)]
  have fr : ∀ e i, e ≠ 3 → pI (sI (sI σ 3 0 (nI nd)) 3 1 (nI (2 ^ nd - 1))) e i = pI σ e i := fun e i he => by rw [pI_sI_ne he, pI_sI_ne he]
  have frL : ∀ e i, pL (sI (sI σ 3 0 (nI nd)) 3 1 (nI (2 ^ nd - 1))) e i = pL σ e i := fun _ _ => rfl
  have frR : ∀ e i, pR (sI (sI σ 3 0 (nI nd)) 3 1 (nI (2 ^ nd - 1))) e i = pR σ e i := fun _ _ => rfl
  have e30 : pI (sI (sI σ 3 0 (nI nd)) 3 1 (nI (2 ^ nd - 1))) 3 0 = nI nd := by rw [pI_sI_nj (by decide), pI_sI_eq]
  have e31 : pI (sI (sI σ 3 0 (nI nd)) 3 1 (nI (2 ^ nd - 1))) 3 1 = nI (2 ^ nd - 1) := pI_sI_eq
  generalize sI (sI σ 3 0 (nI nd)) 3 1 (nI (2 ^ nd - 1)) = σ3 at *
  obtain ⟨σ', g1, g2, g3⟩ := whS (fun F s v => lX2_learn_22 w (fun (σ16 : pS) => some ((), σ16)) F v s) (n := nd) (by omega) (fun j s => FL σ3 s ∧ ∀ x, x < 2 ^ j → pI s 12 x = b2i (fitT τ x j) ∧ pI s 13 x = nI (rateT τ x j)) (fun (σ16 : pS) => some ((), σ16)) σ3 ⟨FL_rf, fun x hx => by
      have : x = 0 := by
        have : 2 ^ 0 = 1 := rfl
        omega
      subst this
      rw [fr 12 0 (by decide), fr 13 0 (by decide), h0, h1]
      exact ⟨rfl, rfl⟩⟩ (fun F s hs => by
      show lX2_learn_22 _ _ (F + 1) _ s = _
      rw [lX2_learn_22.eq_2, hs.1.1 3 0 (by decide) (by decide), e30, if_pos (nI_le (Nat.le_refl _) (by omega))]) (fun F s j hj hs => by
      have d5 : ∀ d, d < nd → pI s (w + 5) d = pI τ 8 (5 * d) := fun d hd' => by rw [hs.1.1 _ _ (by omega) (by omega), fr _ _ (by omega)]; exact c5 d hd'
      have d6 : ∀ d, d < nd → pI s (w + 6) d = pI τ 8 (5 * d + 1) := fun d hd' => by rw [hs.1.1 _ _ (by omega) (by omega), fr _ _ (by omega)]; exact c6 d hd'
      have d8 : pI s (w + 8) j = nI (iN τ j) := by rw [hs.1.1 _ _ (by omega) (by omega), fr _ _ (by omega)]; exact c8 j hj
      obtain ⟨s', b1, b2, b3⟩ := learn_own hw h8 hj d8 hs.2 (fun (σ15 : pS) => lX2_learn_22 w (fun (σ16 : pS) => some ((), σ16)) F (nI j + (1 : Int32)) σ15)
      refine ⟨s', ?_, FL_tr hs.1 b2, b3⟩
      show lX2_learn_22 _ _ (F + 1) _ s = _
      rw [lX2_learn_22.eq_2, hs.1.1 3 0 (by decide) (by decide), e30, if_neg (nI_nge (by omega) (by omega))]
      refine (learn_clash hw h8 d5 d6 hj _).trans ?_
      rw [q_one (by omega), plet_eq]
      refine b1.trans ?_
      rw [nI_1])
  refine ⟨σ', g1, fun e i q1 q2 q3 => by rw [g2.1 e i q1 q2, fr e i q3], fun e i => by rw [g2.2.1, frL], fun e i => by rw [g2.2.2, frR], by rw [g2.1 3 0 (by decide) (by decide)]; exact e30, by rw [g2.1 3 1 (by decide) (by decide)]; exact e31, g3⟩
