/-! PURE: the law, cards, the book and the kept ones -/
theorem clash_like4 {τ τ' : pS} (h : ∀ d k, k < 4 → pI τ' 8 (5 * d + k) = pI τ 8 (5 * d + k)) (d e : Nat) : clashT τ' d e = clashT τ d e := by
  have a := h d 0 (by decide)
  have b := h e 0 (by decide)
  have a1 := h d 1 (by decide)
  have b1 := h e 1 (by decide)
  simp only [Nat.add_zero] at a b
  unfold clashT
  rw [a, b, a1, b1]
theorem fit_like4 {τ τ' : pS} (h : ∀ d k, k < 4 → pI τ' 8 (5 * d + k) = pI τ 8 (5 * d + k)) (s n : Nat) : fitT τ' s n = fitT τ s n := by unfold fitT; simp only [clash_like4 h]
theorem rate_like4 {τ τ' : pS} (h : ∀ d k, k < 4 → pI τ' 8 (5 * d + k) = pI τ 8 (5 * d + k)) (s : Nat) : ∀ n, rateT τ' s n = rateT τ s n
  | 0 => rfl
  | n + 1 => by unfold rateT; rw [rate_like4 h s n, h n 3 (by decide)]
/-- the village or the book changes, no row, no text, no scalar -/
theorem RR_vil {σ σ' τ τ' : pS} (h : RR σ τ) (hx : ∀ e i, e < 46 → e ≠ 9 → pI σ' e i = pI σ e i) (hL : ∀ e i, pL σ' e i = pL σ e i) (hm : ∀ e i, e ≠ 0 → e ≠ 7 → e ≠ 8 → pI τ' e i = pI τ e i) (h0 : ∀ i, i ≠ 14 → pI τ' 0 i = pI τ 0 i) (h8 : ∀ d k, k < 4 → pI τ' 8 (5 * d + k) = pI τ 8 (5 * d + k)) (hM : ∀ e i, pL τ' e i = pL τ e i) (rv : Rv σ' τ') (ro : Ro τ') : RR σ' τ' := by
  have etd : td τ' = td τ := by unfold td; rw [h0 12 (by decide)]
  obtain ⟨a1, a2, a3, a4, a5⟩ := h.1
  refine ⟨⟨?_, ?_, ?_, ?_, fun f hf => ?_⟩, Rr_frame h.2.1 (fun e he i => hx e i (by omega) (by omega)) (fun e he i => hm e i (by omega) (by omega) (by omega)), Rt_frame h.2.2.1 (fun e he i => hx e i (by omega) (by omega)) (fun e he i => hm e i (by omega) (by omega) (by omega)), rv, ro, fun k hk => ?_, ?_⟩
  · rw [hx 0 9 (by decide) (by decide), h0 2 (by decide)]; exact a1
  · rw [hL, hM]; exact a2
  · rw [hL, hM]; exact a3
  · rw [hx 0 12 (by decide) (by decide), h0 0 (by decide)]; exact a4
  · rw [hx 8 f (by decide) (by decide), hm 1 f (by decide) (by decide) (by decide)]; exact a5 f hf
  · have q := h.2.2.2.2.2.1 k hk
    rw [hx 11 k (by decide) (by decide), hm 16 k (by decide) (by decide) (by decide), etd]
    rcases q with q | ⟨q1, q2, q3⟩
    · exact Or.inl q
    · refine Or.inr ⟨q1, q2, fun d hd => ?_⟩
      rw [hx (30 + k) d (by omega) (by omega), hm 17 (8 * k + d) (by decide) (by decide) (by decide)]
      exact q3 d hd
  · unfold Rf
    rw [etd, hx 3 0 (by decide) (by decide), hx 3 1 (by decide) (by decide)]
    refine ⟨h.2.2.2.2.2.2.1, h.2.2.2.2.2.2.2.1, fun s hs => ?_⟩
    rw [hx 12 s (by decide) (by decide), hx 13 s (by decide) (by decide), fit_like4 h8, rate_like4 h8]
    exact h.2.2.2.2.2.2.2.2 s hs
theorem xm {α : Type} {a b c d : α} (h1 : a = b) (h2 : c = d) (h : b = d) : a = c := by rw [h1, h2, h]
theorem RR_law {σ τ : pS} (h : RR σ τ) {w : Nat} (hw : w < 4) : RR (sI σ (vl σ) 2 (nI w)) (sI τ 0 14 (nI w)) := by
  have hv := vl_ge h.2.2.2.1
  have en : tn (sI τ 0 14 (nI w)) = tn τ := by unfold tn; rw [pI_sI_nj (by decide)]
  have ed : td (sI τ 0 14 (nI w)) = td τ := by unfold td; rw [pI_sI_nj (by decide)]
  obtain ⟨v1, v2, v3, v4, v5, v6, v7, v8⟩ := h.2.2.2.1
  refine RR_vil h (fun e i he _ => pI_sI_ne (by omega)) (fun _ _ => rfl) (fun e i q0 q7 q8 => pI_sI_ne q0) (fun i hi => pI_sI_nj hi) (fun d k hk => pI_sI_ne (by decide)) (fun _ _ => rfl) ?_ ?_
  · refine ⟨v1, v2, v3, ?_, ?_, ?_, fun p hp => ?_, fun d hd => ?_⟩
    · show pI (sI σ (vl σ) 2 (nI w)) (vl σ) 0 = _
      rw [pI_sI_nj (by decide), pI_sI_nj (by decide)]; exact v4
    · show pI (sI σ (vl σ) 2 (nI w)) (vl σ) 1 = _
      rw [pI_sI_nj (by decide), pI_sI_nj (by decide)]; exact v5
    · show pI (sI σ (vl σ) 2 (nI w)) (vl σ) 2 = _
      rw [pI_sI_eq, pI_sI_eq]
    · rw [en] at hp
      show pI (sI σ (vl σ) 2 (nI w)) (vl σ + 1) p = _ ∧ pI (sI σ (vl σ) 2 (nI w)) (vl σ + 2) p = _ ∧ pI (sI σ (vl σ) 2 (nI w)) (vl σ + 3) p = _ ∧ pI (sI σ (vl σ) 2 (nI w)) (vl σ + 4) p = _
      obtain ⟨w1, w2, w3, w4⟩ := v7 p hp
      exact ⟨xm (pI_sI_ne (by omega)) (pI_sI_ne (by decide)) w1, xm (pI_sI_ne (by omega)) (pI_sI_ne (by decide)) w2, xm (pI_sI_ne (by omega)) (pI_sI_ne (by decide)) w3, xm (pI_sI_ne (by omega)) (pI_sI_ne (by decide)) w4⟩
    · rw [ed] at hd
      show pI (sI σ (vl σ) 2 (nI w)) (vl σ + 5) d = _ ∧ pI (sI σ (vl σ) 2 (nI w)) (vl σ + 6) d = _ ∧ pI (sI σ (vl σ) 2 (nI w)) (vl σ + 7) d = _ ∧ pI (sI σ (vl σ) 2 (nI w)) (vl σ + 8) d = _ ∧ pI (sI σ (vl σ) 2 (nI w)) 9 d = _
      obtain ⟨w1, w2, w3, w4, w5⟩ := v8 d hd
      exact ⟨xm (pI_sI_ne (by omega)) (pI_sI_ne (by decide)) w1, xm (pI_sI_ne (by omega)) (pI_sI_ne (by decide)) w2, xm (pI_sI_ne (by omega)) (pI_sI_ne (by decide)) w3, xm (pI_sI_ne (by omega)) (pI_sI_ne (by decide)) w4, xm (pI_sI_ne (by omega)) (pI_sI_ne (by decide)) w5⟩
  · obtain ⟨o1, o2, o3, o4, -, o6, o7⟩ := h.2.2.2.2.1
    unfold Ro okP okD
    rw [en, ed]
    have e7 : ∀ i, pI (sI τ 0 14 (nI w)) 7 i = pI τ 7 i := fun i => pI_sI_ne (by decide)
    have e8 : ∀ i, pI (sI τ 0 14 (nI w)) 8 i = pI τ 8 i := fun i => pI_sI_ne (by decide)
    simp only [e7, e8]
    refine ⟨o1, o2, ?_, ?_, ⟨w, hw, pI_sI_eq⟩, o6, o7⟩
    · rw [pI_sI_nj (by decide)]; exact o3
    · rw [pI_sI_nj (by decide)]; exact o4
theorem o_law : op_law RR := by
  intro σ τ a h
  have v1 : isV (pR σ 0 8) = true := h.2.2.2.1.1
  have v6 : pI σ (pR σ 0 8) 2 = pI τ 0 14 := h.2.2.2.1.2.2.2.2.2.1
  unfold fX4_law fX5_law
  rcases rng a 3 (by decide) with g | ⟨c1, c2, c3⟩ | ⟨k, hk, rfl, c1, c2, c3⟩
  · exact ⟨-1, σ, τ, by rw [if_pos g], by rw [in_neg g]; rfl, h⟩
  · have c3 : (3 : Int32) < a := c3
    have c4 : ¬ a < (4 : Int32) := by
      rw [Int32.lt_iff_toInt_lt] at c3 ⊢
      have e3 : (3 : Int32).toInt = 3 := by decide
      have e4 : (4 : Int32).toInt = 4 := by decide
      omega
    exact ⟨-1, σ, τ, by rw [if_neg c1, if_neg c4], by rw [in_big c3]; rfl, h⟩
  · have c3 : ¬ (3 : Int32) < nI k := c3
    have c4 : nI k < (4 : Int32) := nI_lt (b := 4) (by omega) (by decide)
    rw [if_neg c1, if_pos c4, v1, in_yes c1 c3]
    simp only [if_true, plet_eq, obind_some, i10, if_false, v6]
    exact ⟨_, _, _, rfl, rfl, RR_law h (by omega)⟩
def okX (j : Nat) (x : Int32) : Prop := (j = 2 → ∃ o, o < 4096 ∧ x = nI o) ∧ (j = 3 → ∃ c, c ≤ 99 ∧ x = nI c)
/-- one number of a person changes: out (j = 2) or cards (j = 3) -/
theorem RR_pset {σ τ : pS} (h : RR σ τ) {p j : Nat} (hp : p < tn τ) (hj : j = 2 ∨ j = 3) {x : Int32} (hx : okX j x) : RR (sI σ (vl σ + 1 + j) p x) (sI τ 7 (4 * p + j) x) := by
  have hv := vl_ge h.2.2.2.1
  have en : tn (sI τ 7 (4 * p + j) x) = tn τ := by unfold tn; rw [pI_sI_ne (by decide)]
  have ed : td (sI τ 7 (4 * p + j) x) = td τ := by unfold td; rw [pI_sI_ne (by decide)]
  obtain ⟨v1, v2, v3, v4, v5, v6, v7, v8⟩ := h.2.2.2.1
  refine RR_vil h (fun e i he _ => pI_sI_ne (by omega)) (fun _ _ => rfl) (fun e i q0 q7 q8 => pI_sI_ne q7) (fun i hi => pI_sI_ne (by decide)) (fun d k hk => pI_sI_ne (by decide)) (fun _ _ => rfl) ?_ ?_
  · refine ⟨v1, v2, v3, ?_, ?_, ?_, fun q hq => ?_, fun d hd => ?_⟩
    · show pI (sI σ (vl σ + 1 + j) p x) (vl σ) 0 = _
      rw [pI_sI_ne (by omega), pI_sI_ne (by decide)]; exact v4
    · show pI (sI σ (vl σ + 1 + j) p x) (vl σ) 1 = _
      rw [pI_sI_ne (by omega), pI_sI_ne (by decide)]; exact v5
    · show pI (sI σ (vl σ + 1 + j) p x) (vl σ) 2 = _
      rw [pI_sI_ne (by omega), pI_sI_ne (by decide)]; exact v6
    · rw [en] at hq
      show pI (sI σ (vl σ + 1 + j) p x) (vl σ + 1) q = _ ∧ pI (sI σ (vl σ + 1 + j) p x) (vl σ + 2) q = _ ∧ pI (sI σ (vl σ + 1 + j) p x) (vl σ + 3) q = _ ∧ pI (sI σ (vl σ + 1 + j) p x) (vl σ + 4) q = _
      obtain ⟨w1, w2, w3, w4⟩ := v7 q hq
      refine ⟨?_, ?_, ?_, ?_⟩
      · exact xm (pI_sI_ne (by omega)) (pI_sI_nj (by omega)) w1
      · exact xm (pI_sI_ne (by omega)) (pI_sI_nj (by omega)) w2
      · rw [pI_sI, pI_sI]
        by_cases e : q = p ∧ j = 2
        · rw [if_pos (by omega), if_pos (by omega)]
        · rw [if_neg (by omega), if_neg (by omega)]; exact w3
      · rw [pI_sI, pI_sI]
        by_cases e : q = p ∧ j = 3
        · rw [if_pos (by omega), if_pos (by omega)]
        · rw [if_neg (by omega), if_neg (by omega)]; exact w4
    · rw [ed] at hd
      show pI (sI σ (vl σ + 1 + j) p x) (vl σ + 5) d = _ ∧ pI (sI σ (vl σ + 1 + j) p x) (vl σ + 6) d = _ ∧ pI (sI σ (vl σ + 1 + j) p x) (vl σ + 7) d = _ ∧ pI (sI σ (vl σ + 1 + j) p x) (vl σ + 8) d = _ ∧ pI (sI σ (vl σ + 1 + j) p x) 9 d = _
      obtain ⟨w1, w2, w3, w4, w5⟩ := v8 d hd
      exact ⟨xm (pI_sI_ne (by omega)) (pI_sI_ne (by decide)) w1, xm (pI_sI_ne (by omega)) (pI_sI_ne (by decide)) w2, xm (pI_sI_ne (by omega)) (pI_sI_ne (by decide)) w3, xm (pI_sI_ne (by omega)) (pI_sI_ne (by decide)) w4, xm (pI_sI_ne (by omega)) (pI_sI_ne (by decide)) w5⟩
  · obtain ⟨o1, o2, o3, o4, -, o6, o7⟩ := h.2.2.2.2.1
    unfold Ro okD
    rw [en, ed]
    have e8 : ∀ i, pI (sI τ 7 (4 * p + j) x) 8 i = pI τ 8 i := fun i => pI_sI_ne (by decide)
    simp only [e8]
    refine ⟨o1, o2, ?_, ?_, ?_, fun q hq => ?_, o7⟩
    · rw [pI_sI_ne (by decide)]; exact o3
    · rw [pI_sI_ne (by decide)]; exact o4
    · rw [pI_sI_ne (by decide)]; exact h.2.2.2.2.1.2.2.2.2.1
    · have n0 : 4 * q ≠ 4 * p + j := by omega
      have n1 : 4 * q + 1 ≠ 4 * p + j := by omega
      have c2 : ((7 = 7) ∧ 4 * q + 2 = 4 * p + j) → q = p ∧ j = 2 := by omega
      have c3 : ((7 = 7) ∧ 4 * q + 3 = 4 * p + j) → q = p ∧ j = 3 := by omega
      obtain ⟨k, k1, k2, k3, k4, k5, k6⟩ := o6 q hq
      unfold okP
      rw [en]
      refine ⟨k, k1, by rw [pI_sI_nj n0]; exact k2, fun z => by rw [pI_sI_nj n1]; exact k3 z, fun z => by rw [pI_sI_nj n1]; exact k4 z, ?_, ?_⟩
      · rw [pI_sI]
        by_cases e : (7 = 7) ∧ 4 * q + 2 = 4 * p + j
        · rw [if_pos e]; exact hx.1 (c2 e).2
        · rw [if_neg e]; exact k5
      · rw [pI_sI]
        by_cases e : (7 = 7) ∧ 4 * q + 3 = 4 * p + j
        · rw [if_pos e]; exact hx.2 (c3 e).2
        · rw [if_neg e]; exact k6
theorem o_cards : op_cards RR := by
  intro σ τ a b h
  have v1 : isV (pR σ 0 8) = true := h.2.2.2.1.1
  obtain ⟨_, _, _, _, _, _, v7, _⟩ := h.2.2.2.1
  obtain ⟨o1, _⟩ := h.2.2.2.2.1
  unfold fX4_cards fX5_cards
  rw [v1]
  rcases isOne_cases h a with ⟨g1, g2⟩ | ⟨p, hp, rfl, g1, g2⟩
  · have g1 : fX3_isPerson σ (pR σ 0 8) a = some 0 := g1
    exact ⟨-1, σ, τ, by rw [g1]; rfl, by rw [g2]; rfl, h⟩
  · have g1 : fX3_isPerson σ (pR σ 0 8) (nI p) = some 1 := g1
    rw [g1, g2]
    simp only [obind_some, i10, if_false, if_true]
    rcases rng b 99 (by decide) with g | ⟨c1, c2, c3⟩ | ⟨k, hk, rfl, c1, c2, c3⟩
    · exact ⟨-1, σ, τ, by rw [if_pos g], by rw [in_neg g]; rfl, h⟩
    · have c2 : ¬ b ≤ (99 : Int32) := c2
      have c3 : (99 : Int32) < b := c3
      exact ⟨-1, σ, τ, by rw [if_neg c1, if_neg c2], by rw [in_big c3]; rfl, h⟩
    · have c2 : nI k ≤ (99 : Int32) := c2
      have c3 : ¬ (99 : Int32) < nI k := c3
      have w4 : pI σ (pR σ 0 8 + 4) p = pI τ 7 (4 * p + 3) := (v7 p hp).2.2.2
      rw [if_neg c1, if_pos c2, in_yes c1 c3]
      simp only [obind_some, i10, if_false, n4 3 (show (3 : Int32) = nI 3 from rfl), pin_lit (show 4 * p + 3 < 24 by omega) (by decide), pin_lit (show p < 6 by omega) (by decide), nI_clamp (show 4 * p + 3 < 2 ^ 31 by omega), nI_clamp (show p < 2 ^ 31 by omega), if_true, plet_eq, w4]
      exact ⟨_, _, _, rfl, rfl, RR_pset (j := 3) h hp (by omega) ⟨fun z => absurd z (by decide), fun _ => ⟨k, hk, rfl⟩⟩⟩
theorem RR_paid {σ τ : pS} (h : RR σ τ) {d : Nat} (hd : d < td τ) {x : Int32} (hx' : okH x) : RR (sI σ 9 d x) (sI τ 8 (5 * d + 4) x) := by
  have hv := vl_ge h.2.2.2.1
  have en : tn (sI τ 8 (5 * d + 4) x) = tn τ := by unfold tn; rw [pI_sI_ne (by decide)]
  have ed : td (sI τ 8 (5 * d + 4) x) = td τ := by unfold td; rw [pI_sI_ne (by decide)]
  obtain ⟨v1, v2, v3, v4, v5, v6, v7, v8⟩ := h.2.2.2.1
  refine RR_vil h (fun e i he h9 => pI_sI_ne h9) (fun _ _ => rfl) (fun e i q0 q7 q8 => pI_sI_ne q8) (fun i hi => pI_sI_ne (by decide)) (fun d k hk => pI_sI_nj (by omega)) (fun _ _ => rfl) ?_ ?_
  · refine ⟨v1, v2, v3, ?_, ?_, ?_, fun q hq => ?_, fun c hc => ?_⟩
    · show pI (sI σ 9 d x) (vl σ) 0 = _
      rw [pI_sI_ne (by omega), pI_sI_ne (by decide)]; exact v4
    · show pI (sI σ 9 d x) (vl σ) 1 = _
      rw [pI_sI_ne (by omega), pI_sI_ne (by decide)]; exact v5
    · show pI (sI σ 9 d x) (vl σ) 2 = _
      rw [pI_sI_ne (by omega), pI_sI_ne (by decide)]; exact v6
    · rw [en] at hq
      show pI (sI σ 9 d x) (vl σ + 1) q = _ ∧ pI (sI σ 9 d x) (vl σ + 2) q = _ ∧ pI (sI σ 9 d x) (vl σ + 3) q = _ ∧ pI (sI σ 9 d x) (vl σ + 4) q = _
      obtain ⟨w1, w2, w3, w4⟩ := v7 q hq
      exact ⟨xm (pI_sI_ne (by omega)) (pI_sI_ne (by decide)) w1, xm (pI_sI_ne (by omega)) (pI_sI_ne (by decide)) w2, xm (pI_sI_ne (by omega)) (pI_sI_ne (by decide)) w3, xm (pI_sI_ne (by omega)) (pI_sI_ne (by decide)) w4⟩
    · rw [ed] at hc
      show pI (sI σ 9 d x) (vl σ + 5) c = _ ∧ pI (sI σ 9 d x) (vl σ + 6) c = _ ∧ pI (sI σ 9 d x) (vl σ + 7) c = _ ∧ pI (sI σ 9 d x) (vl σ + 8) c = _ ∧ pI (sI σ 9 d x) 9 c = _
      obtain ⟨w1, w2, w3, w4, w5⟩ := v8 c hc
      refine ⟨xm (pI_sI_ne (by omega)) (pI_sI_nj (by omega)) w1, xm (pI_sI_ne (by omega)) (pI_sI_nj (by omega)) w2, xm (pI_sI_ne (by omega)) (pI_sI_nj (by omega)) w3, xm (pI_sI_ne (by omega)) (pI_sI_nj (by omega)) w4, ?_⟩
      rw [pI_sI, pI_sI]
      by_cases e : c = d
      · rw [if_pos ⟨rfl, e⟩, if_pos (by omega)]
      · rw [if_neg (by omega), if_neg (by omega)]; exact w5
  · obtain ⟨o1, o2, o3, o4, -, o6, o7⟩ := h.2.2.2.2.1
    unfold Ro okP
    rw [en, ed]
    have e7 : ∀ i, pI (sI τ 8 (5 * d + 4) x) 7 i = pI τ 7 i := fun i => pI_sI_ne (by decide)
    simp only [e7]
    refine ⟨o1, o2, ?_, ?_, ?_, o6, fun c hc => ?_⟩
    · rw [pI_sI_ne (by decide)]; exact o3
    · rw [pI_sI_ne (by decide)]; exact o4
    · rw [pI_sI_ne (by decide)]; exact h.2.2.2.2.1.2.2.2.2.1
    · have n0 : 5 * c ≠ 5 * d + 4 := by omega
      have n1 : 5 * c + 1 ≠ 5 * d + 4 := by omega
      have n2 : 5 * c + 2 ≠ 5 * d + 4 := by omega
      have n3 : 5 * c + 3 ≠ 5 * d + 4 := by omega
      obtain ⟨a, b, v, i, k1, k2, k3, k4, k5, k6, k7, k8, k9, k10, k11⟩ := o7 c hc
      unfold okD
      rw [en]
      refine ⟨a, b, v, i, k1, k2, k3, k4, k5, k6, by rw [pI_sI_nj n0]; exact k7, by rw [pI_sI_nj n1]; exact k8, by rw [pI_sI_nj n2]; exact k9, by rw [pI_sI_nj n3]; exact k10, ?_⟩
      rw [pI_sI]
      by_cases e : (8 = 8) ∧ 5 * c + 4 = 5 * d + 4
      · rw [if_pos e]; exact hx'
      · rw [if_neg e]; exact k11
theorem isPaid_eq {σ : pS} {d : Nat} (hd : d < 8) : fX0_isPaid σ (nI d) = some (if pI σ 9 d = -9 then 0 else 1) := by
  unfold fX0_isPaid
  rw [pin_lit hd (by decide), nI_clamp (by omega)]
  by_cases e : pI σ 9 d = -9 <;> simp [e]
theorem o_unpay : op_unpay RR := by
  intro σ τ a h
  have v1 : isV (pR σ 0 8) = true := h.2.2.2.1.1
  obtain ⟨_, _, _, _, _, _, _, v8⟩ := h.2.2.2.1
  obtain ⟨_, o2, _⟩ := h.2.2.2.2.1
  unfold fX4_unpay fX5_unpay
  rw [v1]
  rcases isDebt_cases h a with ⟨g1, g2⟩ | ⟨d, hd, rfl, g1, g2⟩
  · have g1 : fX3_isDebt σ (pR σ 0 8) a = some 0 := g1
    exact ⟨-1, σ, τ, by rw [g1]; rfl, by rw [g2]; rfl, h⟩
  · have g1 : fX3_isDebt σ (pR σ 0 8) (nI d) = some 1 := g1
    have hd8 : d < 8 := by omega
    have w5 : pI σ 9 d = pI τ 8 (5 * d + 4) := (v8 d hd).2.2.2.2
    rw [g1, g2]
    simp only [obind_some, i10, if_false, if_true, isPaid_eq hd8, debtAt_eq hd8 (show 4 < 5 by decide) (show (4 : Int32) = nI 4 from rfl), w5]
    by_cases e : pI τ 8 (5 * d + 4) = -9
    · simp only [e, if_true]
      exact ⟨-4, σ, τ, rfl, rfl, h⟩
    · simp only [e, if_false, i10, pin_lit hd8 (show 8 ≤ 2 ^ 31 by decide), nI_clamp (show d < 2 ^ 31 by omega), if_true, plet_eq, n5 4 (show (4 : Int32) = nI 4 from rfl), pin_lit (show 5 * d + 4 < 40 by omega) (by decide), nI_clamp (show 5 * d + 4 < 2 ^ 31 by omega), w5]
      exact ⟨_, _, _, rfl, rfl, RR_paid h hd (Or.inl rfl)⟩
