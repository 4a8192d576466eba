/-! PURE: facts of the relation in numbers; mark, count -/
theorem hV {σ τ : pS} (h : RR σ τ) : isV (pR σ 0 8) = true := h.2.2.2.1.1
theorem hPn {σ τ : pS} (h : RR σ τ) : pI σ (pR σ 0 8) 0 = nI (tn τ) := (h.2.2.2.1.2.2.2.1).trans h.2.2.2.2.1.2.2.1
theorem hD {σ τ : pS} (h : RR σ τ) : pI σ (pR σ 0 8) 1 = nI (td τ) := (h.2.2.2.1.2.2.2.2.1).trans h.2.2.2.2.1.2.2.2.1
theorem hW {σ τ : pS} (h : RR σ τ) : pI σ (pR σ 0 8) 2 = nI (wN τ) := (h.2.2.2.1.2.2.2.2.2.1).trans (wN_ok h.2.2.2.2.1).1
theorem hK {σ τ : pS} (h : RR σ τ) {p : Nat} (hp : p < tn τ) : pI σ (pR σ 0 8 + 1) p = nI (kN τ p) := ((h.2.2.2.1.2.2.2.2.2.2.1 p hp).1).trans (kN_ok h.2.2.2.2.1 hp).1
theorem hM1 {σ τ : pS} (h : RR σ τ) {p : Nat} (hp : p < tn τ) : pI σ (pR σ 0 8 + 2) p = pI τ 7 (4 * p + 1) := (h.2.2.2.1.2.2.2.2.2.2.1 p hp).2.1
theorem hO {σ τ : pS} (h : RR σ τ) {p : Nat} (hp : p < tn τ) : pI σ (pR σ 0 8 + 3) p = nI (outN τ p) := ((h.2.2.2.1.2.2.2.2.2.2.1 p hp).2.2.1).trans (outN_ok (h.2.2.2.2.1.2.2.2.2.2.1 p hp)).1
theorem hC {σ τ : pS} (h : RR σ τ) {p : Nat} (hp : p < tn τ) : pI σ (pR σ 0 8 + 4) p = pI τ 7 (4 * p + 3) := (h.2.2.2.1.2.2.2.2.2.2.1 p hp).2.2.2
theorem hF0 {σ τ : pS} (h : RR σ τ) {d : Nat} (hd : d < td τ) : pI σ (pR σ 0 8 + 5) d = nI (fN τ d) := ((h.2.2.2.1.2.2.2.2.2.2.2 d hd).1).trans (dN_ok h.2.2.2.2.1 hd).1.1
theorem hF1 {σ τ : pS} (h : RR σ τ) {d : Nat} (hd : d < td τ) : pI σ (pR σ 0 8 + 6) d = nI (tN τ d) := ((h.2.2.2.1.2.2.2.2.2.2.2 d hd).2.1).trans (dN_ok h.2.2.2.2.1 hd).2.1.1
theorem hF2 {σ τ : pS} (h : RR σ τ) {d : Nat} (hd : d < td τ) : pI σ (pR σ 0 8 + 7) d = nI (vN τ d) := ((h.2.2.2.1.2.2.2.2.2.2.2 d hd).2.2.1).trans (dN_ok h.2.2.2.2.1 hd).2.2.1.1
theorem hF3 {σ τ : pS} (h : RR σ τ) {d : Nat} (hd : d < td τ) : pI σ (pR σ 0 8 + 8) d = nI (iN τ d) := ((h.2.2.2.1.2.2.2.2.2.2.2 d hd).2.2.2.1).trans (dN_ok h.2.2.2.2.1 hd).2.2.2.1.1
theorem hN6 {σ τ : pS} (h : RR σ τ) : tn τ ≤ 6 := h.2.2.2.2.1.1
theorem hD8 {σ τ : pS} (h : RR σ τ) : td τ ≤ 8 := h.2.2.2.2.1.2.1
theorem eight {k : Nat} (h : k < 8) : k = 0 ∨ k = 1 ∨ k = 2 ∨ k = 3 ∨ k = 4 ∨ k = 5 ∨ k = 6 ∨ k = 7 := by omega
theorem out_lt {τ : pS} (h : Ro τ) {p : Nat} (hp : p < tn τ) : outN τ p < 4096 := (outN_ok (h.2.2.2.2.2.1 p hp)).2
theorem cnt_b (f : Nat → Bool) (c j : Nat) : nI (c + cnt f j) + b2i (f j) = nI (c + cnt f (j + 1)) := by
  show nI (c + cnt f j) + b2i (f j) = nI (c + (cnt f j + if f j then 1 else 0))
  cases hb : f j
  · rw [b2i_f, i_add0]; rfl
  · rw [b2i_t, show (1 : Int32) = nI 1 from rfl, nI_add, Nat.add_assoc]; rfl
theorem cnt_b0 (f : Nat → Bool) (j : Nat) : nI (cnt f j) + b2i (f j) = nI (cnt f (j + 1)) := by
  have := cnt_b f 0 j
  rwa [Nat.zero_add, Nat.zero_add] at this
theorem cnt_false {f : Nat → Bool} : ∀ n, (∀ i, i < n → f i = false) → cnt f n = 0
  | 0, _ => rfl
  | n + 1, h => by unfold cnt; rw [cnt_false n (fun i hi => h i (by omega)), h n (by omega)]; rfl
def ofK (τ : pS) (p w : Nat) : Bool := decide (kN τ p = w) || (decide (w = 1) && decide (kN τ p = 5)) || (decide (w = 3) && decide (kN τ p = 4))
theorem isOfKind_eq {σ τ : pS} (h : RR σ τ) {p : Nat} (hp : p < tn τ) {w : Nat} (hw : w < 6) : fX3_isOfKind σ (pR σ 0 8) (nI p) (nI w) = some (b2i (ofK τ p w)) := by
  have o1 := hN6 h
  have k2 := (kN_ok h.2.2.2.2.1 hp).2.1
  unfold fX3_isOfKind ofK
  rw [hV h, pin_lit (show p < 6 by omega) (by decide), nI_clamp (show p < 2 ^ 31 by omega), hK h hp]
  rcases six k2 with e | e | e | e | e | e <;> rw [e] <;> rcases six hw with f | f | f | f | f | f <;> subst f <;> rfl
theorem howManyOfKind_eq {σ τ : pS} (h : RR σ τ) {w : Nat} (hw : w < 6) {c : Int32} (hc : c = nI w) : fX3_howManyOfKind σ (pR σ 0 8) c = some (nI (cnt (fun p => ofK τ p w) (tn τ))) := by
  subst hc
  have o1 := hN6 h
  unfold fX3_howManyOfKind
  refine whF (fun F (a : Int32) v => lX3_howManyOfKind_4 σ (pR σ 0 8) (nI w) (fun y3 => some y3) F a v) (n := tn τ) (by omega) (fun j => nI (cnt (fun p => ofK τ p w) j)) _ (fun F => ?_) (fun F j hj => ?_)
  · show lX3_howManyOfKind_4 σ _ _ _ (F + 1) _ _ = _
    rw [lX3_howManyOfKind_4.eq_2, hV h, hPn h, if_pos rfl, if_pos (nI_le (Nat.le_refl _) (by omega))]
  · show lX3_howManyOfKind_4 σ _ _ _ (F + 1) _ _ = _
    rw [lX3_howManyOfKind_4.eq_2, hV h, hPn h, if_pos rfl, if_neg (nI_nge (by omega) (by omega)), isOfKind_eq h hj hw]
    simp only [obind_some, nI_1, b2i_0]
    rw [← cnt_b0]
    cases q : ofK τ j w
    · simp only [if_true]; rw [b2i_f, i_add0]
    · simp only [Bool.true_eq_false, if_false]; rw [b2i_t, nI_1]
theorem xowed_eq {σ τ : pS} (h : RR σ τ) {p : Nat} (hp : p < tn τ) : fX3_howManyOwedTo σ (pR σ 0 8) (nI p) = some (nI (cnt (fun d => decide (tN τ d = p)) (td τ))) := by
  have o1 := hN6 h
  have o2 := hD8 h
  unfold fX3_howManyOwedTo
  refine whF (fun F (a : Int32) v => lX3_howManyOwedTo_4 σ (pR σ 0 8) (nI p) (fun y3 => some y3) F a v) (n := td τ) (by omega) (fun j => nI (cnt (fun d => decide (tN τ d = p)) j)) _ (fun F => ?_) (fun F j hj => ?_)
  · show lX3_howManyOwedTo_4 σ _ _ _ (F + 1) _ _ = _
    rw [lX3_howManyOwedTo_4.eq_2, hV h, hD h, if_pos rfl, if_pos (nI_le (Nat.le_refl _) (by omega))]
  · show lX3_howManyOwedTo_4 σ _ _ _ (F + 1) _ _ = _
    have b2 := (dN_ok h.2.2.2.2.1 hj).2.1.2
    rw [lX3_howManyOwedTo_4.eq_2, hV h, hD h, if_pos rfl, if_neg (nI_nge (by omega) (by omega)), pin_lit (show j < 8 by omega) (by decide), if_pos rfl, nI_clamp (by omega), hF1 h hj]
    simp only [nI_1, nI_eq (show tN τ j < 2 ^ 31 by omega) (show p < 2 ^ 31 by omega)]
    rw [← cnt_b0]
    by_cases q : tN τ j = p
    · rw [if_pos q, decide_eq_true q, b2i_t, nI_1]
    · rw [if_neg q, decide_eq_false q, b2i_f, i_add0]
theorem mowed_eq {τ : pS} (h : Ro τ) {p : Nat} (hp : p < tn τ) : fX5_owedTo τ (nI p) = some (nI (cnt (fun d => decide (tN τ d = p)) (td τ))) := by
  have o1 := h.1
  have o2 := h.2.1
  unfold fX5_owedTo
  refine whF (fun F (a : Int32) v => lX5_owedTo_4 τ (nI p) (fun y3 => some y3) F a v) (n := td τ) (by omega) (fun j => nI (cnt (fun d => decide (tN τ d = p)) j)) _ (fun F => ?_) (fun F j hj => ?_)
  · show lX5_owedTo_4 τ _ _ (F + 1) _ _ = _
    rw [lX5_owedTo_4.eq_2, h.2.2.2.1, if_pos (nI_le (Nat.le_refl _) (by omega))]
  · show lX5_owedTo_4 τ _ _ (F + 1) _ _ = _
    have b2 := (dN_ok h hj).2.1.2
    rw [lX5_owedTo_4.eq_2, h.2.2.2.1, if_neg (nI_nge (by omega) (by omega)), debt1 h hj]
    simp only [obind_some, plet_eq, nI_1, nI_eq (show tN τ j < 2 ^ 31 by omega) (show p < 2 ^ 31 by omega)]
    rw [← cnt_b0]
    by_cases q : tN τ j = p
    · rw [if_pos q, decide_eq_true q, b2i_t, nI_1]
    · rw [if_neg q, decide_eq_false q, b2i_f]
theorem mouth_eq {τ : pS} (ho : Ro τ) {p : Nat} (hp : p < tn τ) (b : Bool) {N : Nat} (hN : N = 12) : fX5_outHours τ (nI p) (b2i b) = some (nI (cnt (fun t => outB τ t p && (!b || dogB τ p t)) N)) := by
  have n12 : (12 : Int32) = nI N := by rw [hN]; rfl
  unfold fX5_outHours
  refine whF (fun F (a : Int32) v => lX5_outHours_5 τ (nI p) (b2i b) (fun y3 => some y3) F a v) (n := N) (by omega) (fun j => nI (cnt (fun t => outB τ t p && (!b || dogB τ p t)) j)) _ (fun F => ?_) (fun F j hj => ?_)
  · show lX5_outHours_5 τ _ _ _ (F + 1) _ _ = _
    rw [lX5_outHours_5.eq_2, n12, if_pos (nI_le (Nat.le_refl _) (by omega))]
  · show lX5_outHours_5 τ _ _ _ (F + 1) _ _ = _
    rw [lX5_outHours_5.eq_2, n12, if_neg (nI_nge hj (by omega)), isOutE ho hp (by omega), isDogIn_eq ho hp (by omega)]
    simp only [obind_some, plet_eq, nI_1, b2i_0]
    rw [← cnt_b0]
    cases outB τ j p <;> cases b <;> cases dogB τ p j <;> first | rfl | exact congrArg (fun x => lX5_outHours_5 _ _ _ _ F x _) (nI_1 _).symm
theorem isRow_w {a : Int32} {w : Nat} (hw : w < 6) (h1 : 1 ≤ w) : fX5_in (nI w) 1 5 = some 1 := in_yes (fun z => absurd z (nI_nlt (a := w) (b := 1) (by omega) (by omega))) (fun z => absurd z (nI_nlt (a := 5) (b := w) (by omega) (by decide)))
theorem pop_and {a b N : Nat} (hN : N = 12) (f : Nat → Bool) (h : ∀ t, t < 12 → (a &&& b).testBit t = f t) : pop (a &&& b) = cnt f N := by
  subst hN
  exact cnt_congr 12 h
theorem houseTells_eq {σ τ : pS} (h : RR σ τ) {p : Nat} (hp : p < tn τ) {w : Nat} (h1 : 1 ≤ w) (hw : w < 6) (hk : ofK τ p w = true) : ∃ r, fX3_houseTells σ (pR σ 0 8) (nI p) (nI w) = some r ∧ (if nI w = (1 : Int32) then
            (fX5_outHours τ (nI p) (1 : Int32)).bind fun r9 =>
            some (r9, τ)
          else
          if nI w = (2 : Int32) then
            (fX5_owedTo τ (nI p)).bind fun r13 =>
            some (r13, τ)
          else
          if nI w = (3 : Int32) then
            (fX5_with τ (nI p)).bind fun r17 =>
            some (r17, τ)
          else
          if nI w = (4 : Int32) then
            if pin (((4 : Int32) * nI p) + (2 : Int32)) 24 then
              (fX5_with τ (nI p)).bind fun r21 =>
              if pin (((4 : Int32) * r21) + (2 : Int32)) 24 then
                (fX5_bits ((pI τ 7 ((((4 : Int32) * nI p) + (2 : Int32))).toNatClampNeg) ^^^ (pI τ 7 ((((4 : Int32) * r21) + (2 : Int32))).toNatClampNeg))).bind fun r23 =>
                some (r23, τ)
              else none
            else none
          else
          (fX5_outHours τ (nI p) (0 : Int32)).bind fun r27 =>
          some (r27, τ)) = some (r, τ) := by
  have o1 := hN6 h
  have ho := h.2.2.2.2.1
  have ol := out_lt ho hp
  have dl := dogN_lt τ p
  obtain ⟨N, hN⟩ : ∃ N, N = 12 := ⟨12, rfl⟩
  have c1 : (1 : Int32) = b2i true := rfl
  have c0 : (0 : Int32) = b2i false := rfl
  unfold fX3_houseTells
  rw [hV h, pin_lit (show p < 6 by omega) (by decide), nI_clamp (show p < 2 ^ 31 by omega), hO h hp]
  rcases (show w = 1 ∨ w = 2 ∨ w = 3 ∨ w = 4 ∨ w = 5 by omega) with rfl | rfl | rfl | rfl | rfl
  · refine ⟨nI (pop (outN τ p &&& dogN τ p)), ?_, ?_⟩
    · rw [if_pos (show nI 1 = (1 : Int32) from rfl), dogHours_eq h hp]
      simp only [if_true, obind_some, q_and]
      rw [bitc_eq (Nat.lt_of_le_of_lt Nat.and_le_left ol)]
      rfl
    · rw [if_pos (show nI 1 = (1 : Int32) from rfl)]
      have := mouth_eq ho hp true hN
      rw [b2i_t] at this
      rw [this, obind_some, pop_and hN _ (fun t ht => ?_)]
      rw [Nat.testBit_and, dogN_bit τ p ht]
      rfl
  · refine ⟨nI (cnt (fun d => decide (tN τ d = p)) (td τ)), ?_, ?_⟩
    · rw [if_neg (show ¬ nI 2 = (1 : Int32) by decide), if_pos (show nI 2 = (2 : Int32) from rfl), xowed_eq h hp]
      rfl
    · rw [if_neg (show ¬ nI 2 = (1 : Int32) by decide), if_pos (show nI 2 = (2 : Int32) from rfl), mowed_eq ho hp]
      rfl
  · refine ⟨pI τ 7 (4 * p + 1), ?_, ?_⟩
    · rw [if_neg (show ¬ nI 3 = (1 : Int32) by decide), if_neg (show ¬ nI 3 = (2 : Int32) by decide), if_pos (show nI 3 = (3 : Int32) from rfl), hM1 h hp]
      rfl
    · rw [if_neg (show ¬ nI 3 = (1 : Int32) by decide), if_neg (show ¬ nI 3 = (2 : Int32) by decide), if_pos (show nI 3 = (3 : Int32) from rfl), with_eq ho hp]
      rfl
  · have k4 : kN τ p = 4 := by
      unfold ofK at hk
      simpa using hk
    obtain ⟨m1, m2⟩ := (kN_ok ho hp).2.2.1 (Or.inr k4)
    have ml := out_lt ho m2
    refine ⟨nI (pop (outN τ p ^^^ outN τ (mN τ p))), ?_, ?_⟩
    · rw [if_neg (show ¬ nI 4 = (1 : Int32) by decide), if_neg (show ¬ nI 4 = (2 : Int32) by decide), if_neg (show ¬ nI 4 = (3 : Int32) by decide), if_pos (show nI 4 = (4 : Int32) from rfl)]
      have em : fX3_mateOut σ (pR σ 0 8) (nI p) = some (nI (outN τ (mN τ p))) := by
        unfold fX3_mateOut
        have ip : fX3_isPerson σ (pR σ 0 8) (nI (mN τ p)) = some 1 := by
          unfold fX3_isPerson
          rw [hV h, hPn h, if_neg (nI_pos (by omega)), if_pos rfl, if_neg (nI_nge m2 (by omega))]
        rw [hV h, pin_lit (show p < 6 by omega) (by decide), nI_clamp (show p < 2 ^ 31 by omega), hM1 h hp, m1, ip, pin_lit (show mN τ p < 6 by omega) (by decide), nI_clamp (show mN τ p < 2 ^ 31 by omega), hO h m2]
        rfl
      rw [em]
      simp only [if_true, obind_some, q_xor]
      rw [bitc_eq (Nat.xor_lt_two_pow (n := 12) ol ml)]
      rfl
    · rw [if_neg (show ¬ nI 4 = (1 : Int32) by decide), if_neg (show ¬ nI 4 = (2 : Int32) by decide), if_neg (show ¬ nI 4 = (3 : Int32) by decide), if_pos (show nI 4 = (4 : Int32) from rfl), with_eq ho hp, m1]
      simp only [obind_some]
      rw [n4 2 (show (2 : Int32) = nI 2 from rfl), n4 2 (show (2 : Int32) = nI 2 from rfl), pin_lit (show 4 * p + 2 < 24 by omega) (by decide), pin_lit (show 4 * mN τ p + 2 < 24 by omega) (by decide), nI_clamp (by omega), nI_clamp (by omega), (outN_ok (ho.2.2.2.2.2.1 p hp)).1, (outN_ok (ho.2.2.2.2.2.1 _ m2)).1, q_xor, bits_eq (Nat.xor_lt_two_pow (n := 12) ol ml)]
      rfl
  · refine ⟨nI (pop (outN τ p)), ?_, ?_⟩
    · rw [if_neg (show ¬ nI 5 = (1 : Int32) by decide), if_neg (show ¬ nI 5 = (2 : Int32) by decide), if_neg (show ¬ nI 5 = (3 : Int32) by decide), if_neg (show ¬ nI 5 = (4 : Int32) by decide), bitc_eq ol]
      rfl
    · rw [if_neg (show ¬ nI 5 = (1 : Int32) by decide), if_neg (show ¬ nI 5 = (2 : Int32) by decide), if_neg (show ¬ nI 5 = (3 : Int32) by decide), if_neg (show ¬ nI 5 = (4 : Int32) by decide)]
      have := mouth_eq ho hp false hN
      rw [b2i_f] at this
      rw [this, obind_some]
      subst hN
      exact congrArg (fun c => some (nI c, τ)) (cnt_congr 12 (fun t ht => by simp [outB]))
theorem o_mark : op_mark RR := by
  intro σ τ a b h
  have ho := h.2.2.2.2.1
  unfold fX4_mark fX5_mark
  rw [hV h]
  rcases isOne_cases h a with ⟨g1, g2⟩ | ⟨p, hp, rfl, g1, g2⟩
  · have g1 : fX3_isPerson σ (pR σ 0 8) a = some 0 := g1
    exact ⟨-1, σ, τ, by rw [g1]; rfl, by rw [g2]; rfl, h⟩
  have g1 : fX3_isPerson σ (pR σ 0 8) (nI p) = some 1 := g1
  rw [g1, g2]
  simp only [obind_some, i10, if_false, if_true]
  by_cases z : b ≤ 0
  · refine ⟨-1, σ, τ, by rw [if_pos z], ?_, h⟩
    have z1 : b < 1 := by
      rw [Int32.lt_iff_toInt_lt]
      rw [Int32.le_iff_toInt_le] at z
      have e1 : (1 : Int32).toInt = 1 := by decide
      have e0 : (0 : Int32).toInt = 0 := by decide
      omega
    have e : fX5_in b 1 5 = some 0 := by unfold fX5_in; rw [if_pos z1]
    rw [e]
    rfl
  rw [if_neg z]
  rcases rng b 5 (by decide) with g | ⟨c1, c2, c3⟩ | ⟨w, hw, rfl, c1, c2, c3⟩
  · refine absurd ?_ z
    rw [Int32.le_iff_toInt_le]
    rw [Int32.lt_iff_toInt_lt] at g
    omega
  · have c2 : ¬ b ≤ (5 : Int32) := c2
    have c3 : (5 : Int32) < b := c3
    exact ⟨-1, σ, τ, by rw [if_neg c2], by rw [in_big c3]; rfl, h⟩
  have c2 : nI w ≤ (5 : Int32) := c2
  have w1 : 1 ≤ w := by
    rcases Nat.eq_zero_or_pos w with e | e
    · subst e; exact absurd (show nI 0 ≤ (0 : Int32) by decide) z
    · exact e
  have w6 : w < 6 := by omega
  have k2 := (kN_ok ho hp).2.1
  rw [if_pos c2, isRow_w (a := 0) w6 w1, isOfKind_eq h hp w6, kind_eq ho hp]
  simp only [obind_some, i10, if_false, plet_eq, b2i_0, xf3, mf3, pbind_some]
  have key : ∀ (A B : Option (Int32 × pS)), (if nI (kN τ p) = nI w then A else if nI w = (1 : Int32) then (if nI (kN τ p) = (5 : Int32) then A else (if nI w = (3 : Int32) then (if nI (kN τ p) = (4 : Int32) then A else B) else B)) else (if nI w = (3 : Int32) then (if nI (kN τ p) = (4 : Int32) then A else B) else B)) = if ofK τ p w = true then A else B := by
    intro A B
    unfold ofK
    rcases six k2 with e | e | e | e | e | e <;> rw [e] <;> rcases six w6 with f | f | f | f | f | f <;> subst f <;> rfl
  rw [key]
  cases q : ofK τ p w
  · exact ⟨-3, _, _, rfl, rfl, RR_find h (by decide)⟩
  · obtain ⟨r, h1, h2⟩ := houseTells_eq h hp w1 w6 q
    refine ⟨r, σ, τ, ?_, ?_, h⟩
    · simp only [Bool.true_eq_false, if_false]
      rw [h1]
      rfl
    · rw [if_pos rfl]
      exact h2
