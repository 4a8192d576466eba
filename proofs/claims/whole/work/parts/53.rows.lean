/-! PURE: rows and texts laid out, laid into -/
def only (σ σ' : pS) (e : Nat) : Prop := (∀ e' i, e' ≠ e → pI σ' e' i = pI σ e' i) ∧ (∀ e' i, pL σ' e' i = pL σ e' i) ∧ ∀ e' i, pR σ' e' i = pR σ e' i
theorem only_rf {σ : pS} {e : Nat} : only σ σ e := ⟨fun _ _ _ => rfl, fun _ _ => rfl, fun _ _ => rfl⟩
theorem only_sI {σ σ' : pS} {e i : Nat} {v : Int32} (h : only (sI σ e i v) σ' e) : only σ σ' e := ⟨fun e' j he => by rw [h.1 e' j he, pI_sI_ne he], fun e' j => by rw [h.2.1 e' j]; rfl, fun e' j => by rw [h.2.2 e' j]; rfl⟩
theorem xfillI_run {e n : Nat} (hA : isA wX 0 e = true) (hn : alen wX e = n) (hN : n < 900) (v : Int32) (k : pS → Option (Unit × pS)) : ∀ (q j F : Nat) (σ : pS), j + q = n → q < F → (∀ i, i < j → pI σ e i = v) → ∃ σ', lJ7_fill_53178_5 e v (Int32.ofNat n) k F (nI j) σ = k σ' ∧ (∀ i, i < n → pI σ' e i = v) ∧ only σ σ' e := by
  intro q
  induction q with
  | zero =>
    intro j F σ hj hF hv
    obtain ⟨F, rfl⟩ : ∃ G, F = G + 1 := ⟨F - 1, by omega⟩
    refine ⟨σ, ?_, fun i hi => hv i (by omega), only_rf⟩
    rw [lJ7_fill_53178_5.eq_2, if_pos (show Int32.ofNat n ≤ nI j from nI_le (by omega) (by omega))]
  | succ q ih =>
    intro j F σ hj hF hv
    obtain ⟨F, rfl⟩ : ∃ G, F = G + 1 := ⟨F - 1, by omega⟩
    obtain ⟨σ', h1, h2, h3⟩ := ih (j + 1) F (sI σ e j v) (by omega) (by omega) (fun i hi => by
      by_cases q : i = j
      · rw [q, pI_sI_eq]
      · rw [pI_sI_nj q]; exact hv i (by omega))
    refine ⟨σ', ?_, h2, only_sI h3⟩
    rw [lJ7_fill_53178_5.eq_2, if_neg (show ¬ Int32.ofNat n ≤ nI j from nI_nge (by omega) (by omega)), hA, hn, pin_lit (show j < n by omega) (by omega)]
    simp only [if_true, plet_eq, nI_clamp (show j < 2 ^ 31 by omega), nI_1]
    exact h1
theorem xfillI {e n : Nat} (hA : isA wX 0 e = true) (hn : alen wX e = n) (hN : n < 900) (v : Int32) (σ : pS) : ∃ σ', fJ7_fill_53178 σ e v = some ((), σ') ∧ (∀ i, i < n → pI σ' e i = v) ∧ only σ σ' e := by
  obtain ⟨σ', h1, h2, h3⟩ := xfillI_run hA hn hN v (fun σ => some ((), σ)) n 0 FU σ (by omega) (by simp [FU]; omega) (fun i hi => absurd hi (Nat.not_lt_zero i))
  refine ⟨σ', ?_, h2, h3⟩
  unfold fJ7_fill_53178
  rw [hA, hn]
  simp only [if_true, plet_eq]
  exact h1
theorem xfillB_run {e n : Nat} (hA : isA wX 2 e = true) (hn : alen wX e = n) (hN : n < 900) (v : Int32) (k : pS → Option (Unit × pS)) : ∀ (q j F : Nat) (σ : pS), j + q = n → q < F → (∀ i, i < j → pI σ e i = vp_nar .byte v) → ∃ σ', lJ7_fill_031fb_5 e v (Int32.ofNat n) k F (nI j) σ = k σ' ∧ (∀ i, i < n → pI σ' e i = vp_nar .byte v) ∧ only σ σ' e := by
  intro q
  induction q with
  | zero =>
    intro j F σ hj hF hv
    obtain ⟨F, rfl⟩ : ∃ G, F = G + 1 := ⟨F - 1, by omega⟩
    refine ⟨σ, ?_, fun i hi => hv i (by omega), only_rf⟩
    rw [lJ7_fill_031fb_5.eq_2, if_pos (show Int32.ofNat n ≤ nI j from nI_le (by omega) (by omega))]
  | succ q ih =>
    intro j F σ hj hF hv
    obtain ⟨F, rfl⟩ : ∃ G, F = G + 1 := ⟨F - 1, by omega⟩
    obtain ⟨σ', h1, h2, h3⟩ := ih (j + 1) F (sI σ e j (vp_nar .byte v)) (by omega) (by omega) (fun i hi => by
      by_cases q : i = j
      · rw [q, pI_sI_eq]
      · rw [pI_sI_nj q]; exact hv i (by omega))
    refine ⟨σ', ?_, h2, only_sI h3⟩
    rw [lJ7_fill_031fb_5.eq_2, if_neg (show ¬ Int32.ofNat n ≤ nI j from nI_nge (by omega) (by omega)), hA, hn, pin_lit (show j < n by omega) (by omega)]
    simp only [if_true, plet_eq, nI_clamp (show j < 2 ^ 31 by omega), nI_1]
    exact h1
theorem xfillB {e n : Nat} (hA : isA wX 2 e = true) (hn : alen wX e = n) (hN : n < 900) (v : Int32) (σ : pS) : ∃ σ', fJ7_fill_031fb σ e v = some ((), σ') ∧ (∀ i, i < n → pI σ' e i = vp_nar .byte v) ∧ only σ σ' e := by
  obtain ⟨σ', h1, h2, h3⟩ := xfillB_run hA hn hN v (fun σ => some ((), σ)) n 0 FU σ (by omega) (by simp [FU]; omega) (fun i hi => absurd hi (Nat.not_lt_zero i))
  refine ⟨σ', ?_, h2, h3⟩
  unfold fJ7_fill_031fb
  rw [hA, hn]
  simp only [if_true, plet_eq]
  exact h1
theorem row_isA : ∀ k, k < 6 → isA wX 0 (20 + k) = true ∧ alen wX (20 + k) = 60 := by decide
theorem text_isA : ∀ k, k < 4 → isA wX 2 (26 + k) = true ∧ alen wX (26 + k) = 120 := by decide
/-- the reference's own fill: places 60 p .. 60 p + 59 of cell 3 -/
theorem mrow_run {p : Nat} (hp : p < 6) (b : Int32) (k : pS → Option (Int32 × pS)) : ∀ (q j F : Nat) (σ : pS), j + q = 60 → q < F → (∀ i, i < j → pI σ 3 (60 * p + i) = 0) → ∃ σ', lX5_row_34 (nI p) b k F (nI j) σ = k σ' ∧ (∀ i, i < 60 → pI σ' 3 (60 * p + i) = 0) ∧ (∀ i, (i < 60 * p ∨ 60 * p + 60 ≤ i) → pI σ' 3 i = pI σ 3 i) ∧ only σ σ' 3 := by
  intro q
  induction q with
  | zero =>
    intro j F σ hj hF hv
    obtain ⟨F, rfl⟩ : ∃ G, F = G + 1 := ⟨F - 1, by omega⟩
    refine ⟨σ, ?_, fun i hi => hv i (by omega), fun _ _ => rfl, only_rf⟩
    rw [lX5_row_34.eq_2, if_pos (show (60 : Int32) ≤ nI j from nI_le (a := 60) (by omega) (by omega))]
  | succ q ih =>
    intro j F σ hj hF hv
    obtain ⟨F, rfl⟩ : ∃ G, F = G + 1 := ⟨F - 1, by omega⟩
    obtain ⟨σ', h1, h2, h3, h4⟩ := ih (j + 1) F (sI σ 3 (60 * p + j) 0) (by omega) (by omega) (fun i hi => by
      by_cases q : i = j
      · rw [q, pI_sI_eq]
      · rw [pI_sI_nj (by omega)]; exact hv i (by omega))
    refine ⟨σ', ?_, h2, fun i hi => by rw [h3 i hi, pI_sI_nj (by omega)], only_sI h4⟩
    rw [lX5_row_34.eq_2, if_neg (show ¬ (60 : Int32) ≤ nI j from nI_nge (b := 60) (by omega) (by omega)), n60, pin_lit (show 60 * p + j < 360 by omega) (by decide)]
    simp only [if_true, plet_eq, nI_clamp (show 60 * p + j < 2 ^ 31 by omega), nI_1]
    exact h1
theorem mtext_run {p : Nat} (hp : p < 4) (b : Int32) (k : pS → Option (Int32 × pS)) : ∀ (q j F : Nat) (σ : pS), j + q = 120 → q < F → (∀ i, i < j → pI σ 6 (120 * p + i) = vp_nar .byte 32) → ∃ σ', lX5_text_34 (nI p) b k F (nI j) σ = k σ' ∧ (∀ i, i < 120 → pI σ' 6 (120 * p + i) = vp_nar .byte 32) ∧ (∀ i, (i < 120 * p ∨ 120 * p + 120 ≤ i) → pI σ' 6 i = pI σ 6 i) ∧ only σ σ' 6 := by
  intro q
  induction q with
  | zero =>
    intro j F σ hj hF hv
    obtain ⟨F, rfl⟩ : ∃ G, F = G + 1 := ⟨F - 1, by omega⟩
    refine ⟨σ, ?_, fun i hi => hv i (by omega), fun _ _ => rfl, only_rf⟩
    rw [lX5_text_34.eq_2, if_pos (show (120 : Int32) ≤ nI j from nI_le (a := 120) (by omega) (by omega))]
  | succ q ih =>
    intro j F σ hj hF hv
    obtain ⟨F, rfl⟩ : ∃ G, F = G + 1 := ⟨F - 1, by omega⟩
    obtain ⟨σ', h1, h2, h3, h4⟩ := ih (j + 1) F (sI σ 6 (120 * p + j) (vp_nar .byte 32)) (by omega) (by omega) (fun i hi => by
      by_cases q : i = j
      · rw [q, pI_sI_eq]
      · rw [pI_sI_nj (by omega)]; exact hv i (by omega))
    refine ⟨σ', ?_, h2, fun i hi => by rw [h3 i hi, pI_sI_nj (by omega)], only_sI h4⟩
    rw [lX5_text_34.eq_2, if_neg (show ¬ (120 : Int32) ≤ nI j from nI_nge (b := 120) (by omega) (by omega)), n120, pin_lit (show 120 * p + j < 480 by omega) (by decide)]
    simp only [if_true, plet_eq, nI_clamp (show 120 * p + j < 2 ^ 31 by omega), nI_1]
    exact h1
theorem le_cases (a : Int32) (n : Nat) (hn : n < 2 ^ 31) : (¬ a ≤ nI n) ∨ (a ≤ nI n ∧ ¬ 0 ≤ a) ∨ ∃ k, k ≤ n ∧ a = nI k ∧ a ≤ nI n ∧ 0 ≤ a := by
  by_cases h1 : a ≤ nI n
  · by_cases h0 : 0 ≤ a
    · have h2 : ¬ a < 0 := fun z => by rw [Int32.lt_iff_toInt_lt] at z; rw [Int32.le_iff_toInt_le] at h0; omega
      obtain ⟨k, hk, rfl⟩ := nI_of h2
      have h3 := h1
      rw [Int32.le_iff_toInt_le, nI_toInt hn, nI_toInt hk] at h3
      exact Or.inr (Or.inr ⟨k, by omega, rfl, h1, h0⟩)
    · exact Or.inr (Or.inl ⟨h1, h0⟩)
  · exact Or.inl h1
theorem o_row : op_row RR := by
  intro σ τ a b h
  unfold fX4_row fX5_row
  rcases isRow_cases a with ⟨h1, h2⟩ | ⟨k, hk, rfl, h1, h2⟩
  · exact ⟨-1, σ, τ, by rw [h1]; rfl, by rw [h2]; rfl, h⟩
  · have hp : pin (nI k) 6 = true := pin_lit hk (by decide)
    have hc : (nI k).toNatClampNeg = k := nI_clamp (by omega)
    rw [h1, h2]
    simp only [obind_some, i10, if_false]
    rcases le_cases b 60 (by decide) with g | ⟨g1, g2⟩ | ⟨s, hs, rfl, g1, g2⟩
    · have g : ¬ b ≤ (60 : Int32) := g
      rw [if_neg g, if_neg g]
      exact ⟨-1, σ, τ, rfl, rfl, h⟩
    · have g1 : b ≤ (60 : Int32) := g1
      rw [if_pos g1, if_neg g2, if_pos g1, if_neg g2, xf5, mf5]
      exact ⟨-3, _, _, rfl, rfl, RR_find h (by decide)⟩
    · have g1 : nI s ≤ (60 : Int32) := g1
      rw [if_pos g1, if_pos g2, if_pos g1, if_pos g2]
      obtain ⟨σ1, e1, e2, e3⟩ := xfillI (row_isA k hk).1 (row_isA k hk).2 (by decide) 0 σ
      obtain ⟨τ1, f1, f2, f3, f4⟩ := mrow_run hk (nI s) (fun σ5 => some (nI s, σ5)) 60 0 FU (sI τ 2 k (nI s)) (by omega) (by decide) (fun i hi => absurd hi (Nat.not_lt_zero i))
      unfold fX4_layOutRow
      simp only [hp, hc, if_true, e1, pbind_some, plet_eq]
      refine ⟨nI s, _, _, rfl, f1, RR_row1 (k := k) h hk (fun e i q1 q2 => by rw [pI_sI_ne q1, e3.1 e i q2]) (fun r hr => by rw [pI_sI_nj hr, e3.1 5 r (by omega)]) (fun e i => e3.2.1 e i) (fun e i => e3.2.2 e i) (fun e i q1 q2 => by rw [f4.1 e i q2, pI_sI_ne q1]) (fun r hr => by rw [f4.1 2 r (by decide), pI_sI_nj hr]) (fun r i q1 q2 => by rw [f3 _ (by omega), pI_sI_ne (by decide)]) (fun e i => f4.2.1 e i) (Or.inr ⟨s, hs, pI_sI_eq, by rw [f4.1 2 k (by decide), pI_sI_eq], fun i hi => ?_⟩)⟩
      rw [pI_sI_ne (by omega), e2 i (by omega), f2 i (by omega)]
theorem isText_cases (a : Int32) : (fX4_isText a = some 0 ∧ fX5_isText a = some 0) ∨ ∃ k, k < 4 ∧ a = nI k ∧ fX4_isText a = some 1 ∧ fX5_isText a = some 1 := by
  unfold fX4_isText fX5_isText
  have e3 : (3 : Int32) = nI 4 - 1 := by decide
  rw [e3]
  rcases in_place a 4 (by omega) with ⟨g, e | ⟨e1, e2⟩⟩ | ⟨j, hj, rfl, g, e1, e2⟩
  · left
    rw [g, if_pos e]
    simp only [obind_some, nar0, if_true, and_self]
  · left
    have e2 : (4 : Int32) ≤ a := e2
    rw [g, if_neg e1, if_pos e2]
    simp only [obind_some, nar0, if_true, and_self]
  · right
    have e2 : ¬ (4 : Int32) ≤ nI j := e2
    refine ⟨j, hj, rfl, ?_, ?_⟩
    · rw [if_neg e1, if_neg e2]
    · rw [g]
      simp only [obind_some, nar1, if_true]
theorem o_text : op_text RR := by
  intro σ τ a b h
  unfold fX4_text fX5_text
  rcases isText_cases a with ⟨h1, h2⟩ | ⟨k, hk, rfl, h1, h2⟩
  · exact ⟨-1, σ, τ, by rw [h1]; rfl, by rw [h2]; rfl, h⟩
  · have hp : pin (nI k) 4 = true := pin_lit hk (by decide)
    have hc : (nI k).toNatClampNeg = k := nI_clamp (by omega)
    rw [h1, h2]
    simp only [obind_some, i10, if_false]
    rcases le_cases b 120 (by decide) with g | ⟨g1, g2⟩ | ⟨s, hs, rfl, g1, g2⟩
    · have g : ¬ b ≤ (120 : Int32) := g
      rw [if_neg g, if_neg g]
      exact ⟨-1, σ, τ, rfl, rfl, h⟩
    · have g1 : b ≤ (120 : Int32) := g1
      rw [if_pos g1, if_neg g2, if_pos g1, if_neg g2, xf5, mf5]
      exact ⟨-3, _, _, rfl, rfl, RR_find h (by decide)⟩
    · have g1 : nI s ≤ (120 : Int32) := g1
      rw [if_pos g1, if_pos g2, if_pos g1, if_pos g2]
      obtain ⟨σ1, e1, e2, e3⟩ := xfillB (text_isA k hk).1 (text_isA k hk).2 (by decide) 32 σ
      obtain ⟨τ1, f1, f2, f3, f4⟩ := mtext_run hk (nI s) (fun σ5 => some (nI s, σ5)) 120 0 FU (sI τ 5 k (nI s)) (by omega) (by decide) (fun i hi => absurd hi (Nat.not_lt_zero i))
      simp only [hp, hc, if_true, e1, pbind_some, plet_eq]
      refine ⟨nI s, _, _, rfl, f1, RR_text1 (k := k) h hk (fun e i q1 q2 => by rw [pI_sI_ne q1, e3.1 e i q2]) (fun r hr => by rw [pI_sI_nj hr, e3.1 7 r (by omega)]) (fun e i => e3.2.1 e i) (fun e i => e3.2.2 e i) (fun e i q1 q2 => by rw [f4.1 e i q2, pI_sI_ne q1]) (fun r hr => by rw [f4.1 5 r (by decide), pI_sI_nj hr]) (fun r i q1 q2 => by rw [f3 _ (by omega), pI_sI_ne (by decide)]) (fun e i => f4.2.1 e i) (Or.inr ⟨s, hs, pI_sI_eq, by rw [f4.1 5 k (by decide), pI_sI_eq], fun i hi => ?_⟩)⟩
      rw [pI_sI_ne (by omega), e2 i (by omega), f2 i (by omega)]
theorem o_lay : op_lay RR := by
  intro σ τ a i v h
  unfold fX4_lay fX4_refusePlace fX5_lay
  rcases isRow_cases a with ⟨h1, h2⟩ | ⟨k, hk, rfl, h1, h2⟩
  · exact ⟨-1, σ, τ, by rw [h1]; rfl, by rw [h2]; rfl, h⟩
  · have hp : pin (nI k) 6 = true := pin_lit hk (by decide)
    have hc : (nI k).toNatClampNeg = k := nI_clamp (by omega)
    rw [h1, h2]
    simp only [obind_some, hp, hc, if_true, plet_eq, i10, if_false]
    rcases h.2.1 k hk with ⟨e1, e2⟩ | ⟨s, hs, e1, e2, e3⟩
    · rw [e1, e2]
      simp only [if_true, nI_m1_nge, if_false, xf1, mf1, pbind_some]
      exact ⟨-3, _, _, rfl, rfl, RR_find h (by decide)⟩
    · rw [e1, e2]
      simp only [nI_ne_m1 (show s < 2 ^ 31 by omega), if_false, nI_ge0 (show s < 2 ^ 31 by omega), if_true]
      rcases place_cases i s (by omega) with ⟨g1, g2⟩ | ⟨j, hj, rfl, g1, g2⟩
      · rw [g1, g2]
        simp only [obind_some, if_true, xf2, mf2, pbind_some]
        exact ⟨-3, _, _, rfl, rfl, RR_find h (by decide)⟩
      · rw [g1, g2]
        simp only [obind_some, i10, if_false, pbind_some, if_true, pin_lit (show j < 60 by omega) (by decide), rowAt_eq hk (show j < 60 by omega), tells_eq, nI_clamp (show j < 2 ^ 31 by omega), e3 j hj, n60, pin_lit (show 60 * k + j < 360 by omega) (by decide), nI_clamp (show 60 * k + j < 2 ^ 31 by omega)]
        refine ⟨1, _, _, rfl, rfl, ?_⟩
        have h' := RR_told h (pI τ 3 (60 * k + j))
        refine RR_row1 (k := k) h' hk (fun e i q1 q2 => pI_sI_ne q2) (fun r hr => pI_sI_ne (by omega)) (fun _ _ => rfl) (fun _ _ => rfl) (fun e i q1 q2 => ?_) (fun r hr => ?_) (fun r i q1 q2 => ?_) (fun _ _ => rfl) (Or.inr ⟨s, hs, ?_, ?_, fun i hi => ?_⟩)
        · rw [pI_sI, pI_sI (e := 0), pI_sI_ne q2]
        · rw [pI_sI_ne (by decide), pI_sI_ne (by decide), pI_sI_ne (by decide)]
        · rw [pI_sI_ne (by decide), pI_sI_nj (by omega), pI_sI_ne (by decide)]
        · rw [pI_sI_ne (by omega), pI_sI_ne (by decide)]; exact e1
        · rw [pI_sI_ne (by decide), pI_sI_ne (by decide)]; exact e2
        · by_cases q : i = j
          · rw [q, pI_sI_eq, pI_sI_ne (by decide), pI_sI_eq]
          · rw [pI_sI_nj q, pI_sI_ne (by omega), pI_sI_ne (by decide), pI_sI_nj (by omega)]
            exact e3 i hi
theorem o_put : op_put RR := by
  intro σ τ a i v h
  unfold fX4_put fX5_put
  rcases isText_cases a with ⟨h1, h2⟩ | ⟨k, hk, rfl, h1, h2⟩
  · exact ⟨-1, σ, τ, by rw [h1]; rfl, by rw [h2]; rfl, h⟩
  · have hp : pin (nI k) 4 = true := pin_lit hk (by decide)
    have hc : (nI k).toNatClampNeg = k := nI_clamp (by omega)
    rw [h1, h2]
    simp only [obind_some, hp, hc, if_true, plet_eq, i10, if_false]
    rcases h.2.2.1 k hk with ⟨e1, e2⟩ | ⟨s, hs, e1, e2, e3⟩
    · rw [e1, e2]
      simp only [if_true, nI_m1_nge, if_false, xf1, mf1, pbind_some]
      exact ⟨-3, _, _, rfl, rfl, RR_find h (by decide)⟩
    · rw [e1, e2]
      simp only [nI_ne_m1 (show s < 2 ^ 31 by omega), if_false, nI_ge0 (show s < 2 ^ 31 by omega), if_true]
      rcases place_cases i s (by omega) with ⟨g1, g2⟩ | ⟨j, hj, rfl, g1, g2⟩
      · rw [g1, g2]
        simp only [obind_some, if_true, xf2, mf2, pbind_some]
        exact ⟨-3, _, _, rfl, rfl, RR_find h (by decide)⟩
      · rw [g1, g2]
        simp only [obind_some, i10, if_false, pbind_some, if_true, pin_lit (show j < 120 by omega) (by decide), nI_clamp (show j < 2 ^ 31 by omega), e3 j hj, n120, pin_lit (show 120 * k + j < 480 by omega) (by decide), nI_clamp (show 120 * k + j < 2 ^ 31 by omega)]
        refine ⟨_, _, _, rfl, by rw [Int32.add_comm], ?_⟩
        refine RR_text1 (k := k) h hk (fun e i q1 q2 => pI_sI_ne q2) (fun r hr => pI_sI_ne (by omega)) (fun _ _ => rfl) (fun _ _ => rfl) (fun e i q1 q2 => pI_sI_ne q2) (fun r hr => pI_sI_ne (by decide)) (fun r i q1 q2 => pI_sI_nj (by omega)) (fun _ _ => rfl) (Or.inr ⟨s, hs, ?_, ?_, fun i hi => ?_⟩)
        · rw [pI_sI_ne (by omega)]; exact e1
        · rw [pI_sI_ne (by decide)]; exact e2
        · by_cases q : i = j
          · rw [q, pI_sI_eq, pI_sI_eq]
          · rw [pI_sI_nj q, pI_sI_nj (by omega)]
            exact e3 i hi
