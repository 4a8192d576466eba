/-! PURE: few -/
def fewM (τ : pS) (t s : Nat) : Nat := mostOf τ (mayO τ t (outS τ t ||| s).testBit)
def fewOk (τ : pS) (t n s : Nat) : Bool := decide (s &&& outS τ t = 0) && decide (n ≤ fewM τ t s)
def fewSt (τ : pS) (t n : Nat) : Nat → Nat × Nat
  | 0 => (7, 0)
  | j + 1 => if pop j < (fewSt τ t n j).1 ∧ fewOk τ t n j = true then (pop j, j) else fewSt τ t n j
theorem fewSt_s (τ : pS) (t n j : Nat) : fewSt τ t n (j + 1) = if pop j < (fewSt τ t n j).1 ∧ fewOk τ t n j = true then (pop j, j) else fewSt τ t n j := rfl
theorem pop_64 : ∀ w, w < 64 → pop w ≤ 6 := by decide
theorem fewSt_cases (τ : pS) (t n : Nat) : ∀ j, j ≤ 64 → fewSt τ t n j = (7, 0) ∨ ∃ w, w < j ∧ pop w ≤ 6 ∧ fewSt τ t n j = (pop w, w)
  | 0, _ => Or.inl rfl
  | j + 1, h => by
    rw [fewSt_s]
    split
    · exact Or.inr ⟨j, by omega, pop_64 j (by omega), rfl⟩
    · rcases fewSt_cases τ t n j (by omega) with e | ⟨w, h1, h2, h3⟩
      · exact Or.inl e
      · exact Or.inr ⟨w, by omega, h2, h3⟩
theorem few_in {τ : pS} {t j : Nat} (hj : j < 2 ^ tn τ) : (diff j (bset (fun p => !outB τ t p) (tn τ)) = 0) ↔ (j &&& outS τ t = 0) := by
  have ib : ∀ i, j.testBit i = true → i < tn τ := fun i hi => by
    by_cases q : i < tn τ
    · exact q
    · rw [Nat.testBit_lt_two_pow (Nat.lt_of_lt_of_le hj (pow_le31 (by omega)))] at hi
      exact absurd hi (by decide)
  constructor
  · intro h
    apply Nat.eq_of_testBit_eq
    intro i
    have := congrArg (fun x => Nat.testBit x i) h
    simp only [diff_bit, bset_bit, Nat.zero_testBit] at this
    rw [Nat.testBit_and, Nat.zero_testBit]
    cases hb : j.testBit i
    · rfl
    · have hi := ib i hb
      rw [outS_bit hi]
      rw [hb, decide_eq_true hi] at this
      revert this
      cases outB τ t i <;> simp
  · intro h
    apply Nat.eq_of_testBit_eq
    intro i
    have := congrArg (fun x => Nat.testBit x i) h
    simp only [Nat.testBit_and, Nat.zero_testBit] at this
    rw [diff_bit, bset_bit, Nat.zero_testBit]
    cases hb : j.testBit i
    · rfl
    · have hi := ib i hb
      rw [hb, outS_bit hi] at this
      rw [decide_eq_true hi]
      revert this
      cases outB τ t i <;> simp
theorem fewM_lt (τ : pS) (t s : Nat) : fewM τ t s ≤ 12 := by
  unfold fewM mostOf
  have key : ∀ m n a, a ≤ 12 → dfold (mostSt τ) m n a ≤ 12 := by
    intro m n
    induction n with
    | zero => intro a ha; exact ha
    | succ n ih =>
      intro a ha
      unfold dfold
      apply ih
      split
      · exact mostSt_le ha
      · exact ha
  exact key _ _ _ (by decide)
theorem xfew_eq {σ τ : pS} (h : RR σ τ) {t : Nat} (ht : t < 12) {n : Nat} (hn : n ≤ 8) (k : Int32 → Int32 → Option (Int32 × pS)) : lX4_few_39 σ (nI t) (nI n) (nI (outS τ t)) k FU (nI 7) (nI 0) (nI 0) = k (nI (fewSt τ t n (2 ^ tn τ)).1) (nI (fewSt τ t n (2 ^ tn τ)).2) := by
  have o1 := hN6 h
  have o2 := hD8 h
  have hp := pow6 o1
  have hl := outS_lt h.2.2.2.2.1 t
  refine whF (fun F (a : Int32 × Int32) v => lX4_few_39 σ (nI t) (nI n) (nI (outS τ t)) k F a.1 a.2 v) (n := 2 ^ tn τ) (by omega) (fun j => (nI (fewSt τ t n j).1, nI (fewSt τ t n j).2)) _ (fun F => ?_) (fun F j hj => ?_)
  · show lX4_few_39 σ _ _ _ _ (F + 1) _ _ _ = _
    rw [lX4_few_39.eq_2, hV h, hPn h, if_pos rfl, q_one (by omega), if_pos (nI_le (Nat.le_refl _) (by omega))]
  · show lX4_few_39 σ _ _ _ _ (F + 1) _ _ _ = _
    have pj := pop_64 j (by omega)
    have f1 : (fewSt τ t n j).1 ≤ 7 := by
      rcases fewSt_cases τ t n j (by omega) with e | ⟨w, _, h2, e⟩ <;> rw [e] <;> simp only <;> omega
    have hS : outS τ t ||| j < 64 := Nat.or_lt_two_pow (n := 6) hl (by omega)
    have fm := fewM_lt τ t j
    have em : fX2_mostAtOnce σ (nI (bset (fun d => payB τ (outS τ t ||| j).testBit d t) (td τ))) = some (nI (fewM τ t j)) := xmost_eq h (bset_lt _ _)
    rw [lX4_few_39.eq_2, hV h, hPn h, if_pos rfl, q_one (by omega), if_neg (nI_nge (by omega) (by omega)), bitc_eq (by omega), obind_some, q_and, q_or, payableDebts_eq h ht (by omega), obind_some, em, obind_some, fewSt_s]
    simp only [nI_leI (show (fewSt τ t n j).1 < 2 ^ 31 by omega) (show pop j < 2 ^ 31 by omega), nI_1, nI_ltI (show fewM τ t j < 2 ^ 31 by omega) (show n < 2 ^ 31 by omega), nI_lit (show j &&& outS τ t < 2 ^ 31 from Nat.lt_of_le_of_lt Nat.and_le_left (by omega)) (show 0 < 2 ^ 31 by decide) (show (0 : Int32) = nI 0 from rfl)]
    by_cases q1 : (fewSt τ t n j).1 ≤ pop j
    · rw [if_pos q1, if_neg (by omega)]
    · rw [if_neg q1]
      unfold fewOk
      by_cases q2 : j &&& outS τ t = 0
      · rw [if_pos q2]
        by_cases q3 : fewM τ t j < n
        · rw [if_pos q3, if_neg (by simp; omega)]
        · rw [if_neg q3, if_pos (by simp [q2]; omega)]
      · rw [if_neg q2, if_neg (by simp [q2])]
def fewB (τ : pS) (t n j : Nat) : Int32 := if (fewSt τ t n j).1 = 7 then -9 else nI (fewSt τ t n j).2
theorem mfew_in {τ : pS} (ho : Ro τ) {t : Nat} (ht : t < 12) (a : Int32) (k : Int32 → Option (Int32 × pS)) : lX5_few_28 τ (nI t) a k FU (nI 0) (nI 0) = k (nI (bset (fun p => !outB τ t p) (tn τ))) := by
  have o1 := ho.1
  refine whF (fun F (b : Int32) v => lX5_few_28 τ (nI t) a k F b v) (n := tn τ) (by omega) (fun j => nI (bset (fun p => !outB τ t p) j)) _ (fun F => ?_) (fun F j hj => ?_)
  · show lX5_few_28 τ _ _ _ (F + 1) _ _ = _
    rw [lX5_few_28.eq_2, ho.2.2.1, if_pos (nI_le (Nat.le_refl _) (by omega))]
  · show lX5_few_28 τ _ _ _ (F + 1) _ _ = _
    rw [lX5_few_28.eq_2, ho.2.2.1, if_neg (nI_nge (by omega) (by omega)), isOutE ho hj ht]
    simp only [obind_some, plet_eq, nI_1, b2i_0]
    cases q : outB τ t j
    · simp only [if_true]; rw [bset_t (f := fun p => !outB τ t p) (by omega) (by simp [q])]
    · simp only [Bool.true_eq_false, if_false, or_0]; rw [bset_f (f := fun p => !outB τ t p) (by simp [q])]
theorem mfew_eq {τ : pS} (ho : Ro τ) (h15 : ∀ p, p < tn τ → pI τ 15 p = pI τ 7 (4 * p + 2)) {t : Nat} (ht : t < 12) {n : Nat} (hn : n ≤ 8) (k : Int32 → pS → Option (Int32 × pS)) : lX5_few_71 (nI t) (nI n) (nI (bset (fun p => !outB τ t p) (tn τ))) k FU (-9) (nI 0) τ = k (fewB τ t n (2 ^ tn τ)) τ := by
  have o1 := ho.1
  have o2 := ho.2.1
  have hp := pow6 o1
  have hl := outS_lt ho t
  refine whF (fun F (a : Int32) v => lX5_few_71 (nI t) (nI n) (nI (bset (fun p => !outB τ t p) (tn τ))) k F a v τ) (n := 2 ^ tn τ) (by omega) (fun j => fewB τ t n j) _ (fun F => ?_) (fun F j hj => ?_)
  · show lX5_few_71 _ _ _ _ (F + 1) _ _ _ = _
    rw [lX5_few_71.eq_2, ho.2.2.1, q_one (by omega), if_pos (nI_le (Nat.le_refl _) (by omega))]
  · show lX5_few_71 _ _ _ _ (F + 1) _ _ _ = _
    have pj := pop_64 j (by omega)
    have fm := fewM_lt τ t j
    have dl : diff j (bset (fun p => !outB τ t p) (tn τ)) < 2 ^ 31 := Nat.lt_of_le_of_lt (diff_le _ _) (by omega)
    rw [lX5_few_71.eq_2, ho.2.2.1, q_one (by omega), if_neg (nI_nge (by omega) (by omega)), q_not]
    obtain ⟨τ', e1, e2, e3, e4⟩ := call_hab ho ht (s := j) (by omega) (nI n) (nI (bset (fun p => !outB τ t p) (tn τ))) (fewB τ t n j) (fun σ20 => (fX5_atOnce σ20 (nI t)).bind fun r22 => plet (fun (y24 : Int32) => pbind (fX5_backHabits σ20) fun _ σ27 => lX5_few_71 (nI t) (nI n) (nI (bset (fun p => !outB τ t p) (tn τ))) k F y24 (nI j + 1) σ27) fun j23 => if r22 < nI n then j23 (fewB τ t n j) else j23 (nI j))
    have bk : fX5_backHabits τ' = some ((), τ) := back_hab ho e2 (fun p k' h1 h2 => by
      by_cases q : k' = 2
      · subst q; exact e4 p (by omega)
      · exact e3.2.2.1 p k' h1 q) h15
    have ma : fX5_atOnce τ' (nI t) = some (nI (fewM τ t j)) := by
      rw [mmost_eq (HB_Ro ho e3) ht, HB_most e3, HB_may ho e3]
      unfold fewM
      rw [mayO_congr ho t (o' := (outS τ t ||| j).testBit) (fun p hp' => ?_)]
      rw [Nat.testBit_or, outS_bit hp']
      unfold calO
      cases hb : j.testBit p
      · simp [outB]
      · simp [hp', Nat.testBit_or, two_bit]
    have body : lX5_few_114 (nI t) (nI n) (nI (bset (fun p => !outB τ t p) (tn τ))) (fewB τ t n j) (nI j) (fun σ20 => (fX5_atOnce σ20 (nI t)).bind fun r22 => plet (fun (y24 : Int32) => pbind (fX5_backHabits σ20) fun _ σ27 => lX5_few_71 (nI t) (nI n) (nI (bset (fun p => !outB τ t p) (tn τ))) k F y24 (nI j + 1) σ27) fun j23 => if r22 < nI n then j23 (fewB τ t n j) else j23 (nI j)) FU 0 τ = lX5_few_71 (nI t) (nI n) (nI (bset (fun p => !outB τ t p) (tn τ))) k F (if fewM τ t j < n then fewB τ t n j else nI j) (nI (j + 1)) τ := by
      rw [e1, ma]
      simp only [obind_some, plet_eq, bk, pbind_some, nI_1, nI_ltI (show fewM τ t j < 2 ^ 31 by omega) (show n < 2 ^ 31 by omega)]
      split <;> rfl
    simp only [plet_eq] at body
    simp only [plet_eq, nI_lit dl (show 0 < 2 ^ 31 by decide) (show (0 : Int32) = nI 0 from rfl)]
    rw [body]
    unfold fewB
    rw [fewSt_s]
    unfold fewOk
    simp only [few_in hj, nI_1]
    by_cases q2 : j &&& outS τ t = 0
    · rw [if_pos q2]
      rcases fewSt_cases τ t n j (by omega) with e | ⟨w, h1, h2, e⟩
      · rw [e]
        simp only [if_true, q2, decide_true, Bool.true_and, decide_eq_true_eq]
        by_cases q3 : fewM τ t j < n
        · rw [if_pos q3, if_neg (show ¬ (pop j < 7 ∧ n ≤ fewM τ t j) by omega)]
          rfl
        · rw [if_neg q3, if_pos (show pop j < 7 ∧ n ≤ fewM τ t j by omega)]
          rw [if_neg (show ¬ pop j = 7 by omega)]
      · rw [e]
        simp only [show ¬ pop w = 7 by omega, if_false, nI_ne_m9 (show w < 2 ^ 31 by omega), bits_eq (show j < 4096 by omega), bits_eq (show w < 4096 by omega), obind_some, nI_leI (show pop w < 2 ^ 31 by omega) (show pop j < 2 ^ 31 by omega), q2, decide_true, Bool.true_and, decide_eq_true_eq]
        by_cases q1 : pop w ≤ pop j
        · rw [if_pos q1, if_neg (show ¬ (pop j < pop w ∧ n ≤ fewM τ t j) by omega)]
          simp only [show ¬ pop w = 7 by omega, if_false]
        · rw [if_neg q1]
          by_cases q3 : fewM τ t j < n
          · rw [if_pos q3, if_neg (show ¬ (pop j < pop w ∧ n ≤ fewM τ t j) by omega)]
            simp only [show ¬ pop w = 7 by omega, if_false]
          · rw [if_neg q3, if_pos (show pop j < pop w ∧ n ≤ fewM τ t j by omega)]
            simp only [show ¬ pop j = 7 by omega, if_false]
    · rw [if_neg q2]
      simp [q2]
theorem o_few : op_few RR := by
  intro σ τ a b h
  unfold fX4_few fX5_few
  rcases isHour_cases a with ⟨g1, g2⟩ | ⟨t, ht, rfl, g1, g2⟩
  · exact ⟨-1, σ, τ, by rw [g1]; rfl, by rw [g2]; rfl, h⟩
  rw [g1, g2]
  simp only [obind_some, i10, if_false]
  by_cases b1 : b < 1
  · rw [if_pos b1, show fX5_in b 1 8 = some 0 by unfold fX5_in; rw [if_pos b1]]
    exact ⟨-1, σ, τ, rfl, rfl, h⟩
  by_cases b2 : b ≤ 8
  · have b3 : ¬ (8 : Int32) < b := fun z => Int32.lt_irrefl (Int32.lt_of_lt_of_le z b2)
    rw [if_neg b1, if_pos b2, in_yes b1 b3, hV h, if_pos rfl, peopleOut_eq h ht]
    obtain ⟨n, hn, rfl⟩ : ∃ n, n ≤ 8 ∧ b = nI n := by
      rcases rng b 8 (by decide) with z | ⟨_, z, _⟩ | ⟨n, h1, h2, _⟩
      · exact absurd (Int32.lt_trans z (show (0 : Int32) < 1 by decide)) b1
      · exact absurd b2 z
      · exact ⟨n, h1, h2⟩
    obtain ⟨τ1, k1, k2, k3⟩ := keep_hab h.2.2.2.2.1
    have h' : RR σ τ1 := RR_FM h (FM_only k2 (by omega))
    have ho := h'.2.2.2.2.1
    have e7 : ∀ i, pI τ1 7 i = pI τ 7 i := fun i => k2.1 7 i (by decide)
    have en : tn τ1 = tn τ := by unfold tn; rw [k2.1 0 10 (by decide)]
    have eo : outS τ1 t = outS τ t := by
      unfold outS
      rw [en]
      refine bset_congr _ (fun p _ => ?_)
      unfold outB outN
      rw [e7]
    rw [obind_some, obind_some, if_neg i10, k1, pbind_some, ← eo]
    have X := xfew_eq h' ht hn (fun (y13 : Int32) (y14 : Int32) => if y13 ≤ (6 : Int32) then plet (sI σ 0 9 y14) fun σ15 => some (y13, σ15) else some ((-9 : Int32), σ))
    have M0 := mfew_in ho ht (nI n) (fun (y13 : Int32) => lX5_few_71 (nI t) (nI n) y13 (fun (y32 : Int32) (σ33 : pS) => if y32 = (-9 : Int32) then some ((-9 : Int32), σ33) else (fX5_bits y32).bind fun r35 => pbind (fX5_tells σ33 y32 r35) fun r37 σ38 => some (r37, σ38)) FU (-9 : Int32) (0 : Int32) τ1)
    have M1 := mfew_eq ho (fun p hp => by rw [e7]; exact k3 p (by omega)) ht hn (fun (y32 : Int32) (σ33 : pS) => if y32 = (-9 : Int32) then some ((-9 : Int32), σ33) else (fX5_bits y32).bind fun r35 => pbind (fX5_tells σ33 y32 r35) fun r37 σ38 => some (r37, σ38))
    have X' := X
    have M := M0.trans M1
    have hp := pow6 ho.1
    rcases fewSt_cases τ1 t n (2 ^ tn τ1) (by omega) with e | ⟨w, w1, w2, e⟩
    · unfold fewB at M
      rw [e] at X' M
      refine ⟨-9, σ, τ1, X', M, h'⟩
    · unfold fewB at M
      rw [e] at X' M
      simp only [show ¬ pop w = 7 by omega, if_false, nI_ne_m9 (show w < 2 ^ 31 by omega), bits_eq (show w < 4096 by omega), obind_some, tells_eq, pbind_some] at M
      exact ⟨nI (pop w), sI σ 0 9 (nI w), _, X'.trans (if_pos (nI_le (b := 6) w2 (by decide))), M, RR_told h' _⟩
  · rw [if_neg b1, if_neg b2, in_big (Int32.not_le.mp b2)]
    exact ⟨-1, σ, τ, rfl, rfl, h⟩
