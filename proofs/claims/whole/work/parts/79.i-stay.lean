/-! PURE: stay -/
def ptT (τ : pS) (p : Nat) (rd : Nat → Int32) (d : Nat) : Int32 := if tN τ d = p ∧ ¬ rd d = -9 then costI τ d (rd d) else 0
theorem xpaidTo_eq {σ τ : pS} (h : RR σ τ) {p : Nat} (hp : p < tn τ) {rd : Nat → Int32} (hr : ∀ d, d < td τ → pI σ 18 d = rd d) : fX2_paidTo σ (pR σ 0 8) (nI p) = some (sumI (ptT τ p rd) (td τ)) := by
  have o1 := hN6 h
  have o2 := hD8 h
  unfold fX2_paidTo
  refine whF (fun F (a : Int32) v => lX2_paidTo_5 σ (pR σ 0 8) (nI p) (fun y5 => some y5) F a v) (n := td τ) (by omega) (fun j => sumI (ptT τ p rd) j) _ (fun F => ?_) (fun F j hj => ?_)
  · show lX2_paidTo_5 σ _ _ _ (F + 1) _ _ = _
    rw [lX2_paidTo_5.eq_2, debtsX h, if_pos (nI_le (Nat.le_refl _) (by omega))]
  · show lX2_paidTo_5 σ _ _ _ (F + 1) _ _ = _
    have ht := (dN_ok h.2.2.2.2.1 hj).2.1.2
    rw [lX2_paidTo_5.eq_2, debtsX h, if_neg (nI_nge (by omega) (by omega)), hV h, pin_lit (show j < 8 by omega) (by decide), nI_clamp (show j < 2 ^ 31 by omega), hF1 h hj, hr j hj, cost_eq h hj]
    simp only [if_true, plet_eq, obind_some, nI_1, nI_eq (show tN τ j < 2 ^ 31 by omega) (show p < 2 ^ 31 by omega)]
    show _ = lX2_paidTo_5 σ _ _ _ F (sumI (ptT τ p rd) j + ptT τ p rd j) _
    unfold ptT
    by_cases q : tN τ j = p
    · by_cases z : rd j = -9
      · simp [q, z, i_add0]
      · simp [q, z]
    · simp [q, i_add0]
theorem mpaid_run2 {τ : pS} (ho : Ro τ) {p : Nat} (hp : p < tn τ) {rd : Nat → Int32} (hr : ∀ d, d < td τ → pI τ 11 d = rd d) (k : Int32 → Option (Int32 × pS)) : lX5_paidTo_8 τ (nI p) k FU 0 (nI 0) = k (sumI (ptT τ p rd) (td τ)) := by
  have o1 := ho.1
  have o2 := ho.2.1
  refine whF (fun F (a : Int32) v => lX5_paidTo_8 τ (nI p) k F a v) (n := td τ) (by omega) (fun j => sumI (ptT τ p rd) j) _ (fun F => ?_) (fun F j hj => ?_)
  · show lX5_paidTo_8 τ _ _ (F + 1) _ _ = _
    rw [lX5_paidTo_8.eq_2, ho.2.2.2.1, if_pos (nI_le (Nat.le_refl _) (by omega))]
  · show lX5_paidTo_8 τ _ _ (F + 1) _ _ = _
    have ht := (dN_ok ho hj).2.1.2
    rw [lX5_paidTo_8.eq_2, ho.2.2.2.1, if_neg (nI_nge (by omega) (by omega)), debt1 ho hj, obind_some, pin_lit (show j < 8 by omega) (by decide), nI_clamp (show j < 2 ^ 31 by omega), hr j hj, costOf_eq (by omega)]
    simp only [if_true, plet_eq, obind_some, nI_1, nI_eq (show tN τ j < 2 ^ 31 by omega) (show p < 2 ^ 31 by omega)]
    show _ = lX5_paidTo_8 τ _ _ F (sumI (ptT τ p rd) j + ptT τ p rd j) _
    unfold ptT
    by_cases q : tN τ j = p
    · by_cases z : rd j = -9
      · simp [q, z]
      · simp [q, z]
    · simp [q]
theorem ptT_like {τ τ' : pS} (h8 : ∀ i, pI τ' 8 i = pI τ 8 i) (p : Nat) (rd : Nat → Int32) : ptT τ' p rd = ptT τ p rd := by
  funext d
  unfold ptT costI tN
  simp only [h8]
def asN (τ : pS) (p : Nat) : Int32 := sumI (ptT τ p (rdN (dpO τ) (mayS τ) (td τ) 12)) (td τ)
theorem mpaidTo_eq {τ : pS} (ho : Ro τ) {p : Nat} (hp : p < tn τ) : ∃ τ', fX5_paidTo τ (nI p) = some (asN τ p, τ') ∧ FR τ τ' := by
  obtain ⟨τ', m1, m2, m3, m4⟩ := layRound_eq ho
  have lm := FR_LM m2
  refine ⟨τ', ?_, m2⟩
  unfold fX5_paidTo
  rw [m1, pbind_some]
  refine (mpaid_run2 (FR_Ro ho m2) (by rw [LM_tn lm]; exact hp) (fun d hd => m4 d (by rw [← LM_td lm]; exact hd)) _).trans ?_
  rw [ptT_like (fun i => m2.1 8 i (by decide) (by decide) (by decide)), LM_td lm]
  rfl
/-- the masks if p stays in at t -/
def mki (τ : pS) (p t x : Nat) : Nat := if x = t then mayO τ t (diff (outS τ t) (2 ^ p)).testBit else mayS τ x
theorem mki_lt (τ : pS) (p t x : Nat) : mki τ p t x < 2 ^ td τ := by
  unfold mki
  split
  · exact bset_lt _ _
  · exact bset_lt _ _
def stN (τ : pS) (p t : Nat) : Int32 := sumI (ptT τ p (rdN (dpO τ) (mki τ p t) (td τ) 12)) (td τ)
theorem tog_mki {τ : pS} (ho : Ro τ) {p t : Nat} (hp : p < tn τ) (hout : outB τ t p = true) : (fun x => mayO τ x (fun q => (tgO τ p t q).testBit x)) = mki τ p t := by
  funext x
  unfold mki
  by_cases z : x = t
  · rw [if_pos z, z]
    refine mayO_congr ho t (fun q hq => ?_)
    rw [diff_bit, outS_bit hq, two_bit]
    unfold tgO
    by_cases y : q = p
    · rw [if_pos y, y, Nat.testBit_xor, two_bit, show (outN τ p).testBit t = true from hout, hout, decide_eq_true rfl, decide_eq_true rfl]
      rfl
    · rw [if_neg y, decide_eq_false (fun w => y w.symm), Bool.not_false, Bool.and_true]
      rfl
  · rw [if_neg z, ← mayO_S]
    refine mayO_congr ho x (fun q hq => ?_)
    unfold tgO
    by_cases y : q = p
    · rw [if_pos y, Nat.testBit_xor, two_bit, decide_eq_false (fun w => z w.symm), Bool.xor_false]
      rfl
    · rw [if_neg y]
      rfl
def FW (σ σ' : pS) : Prop := (∀ e i, ¬ (33 ≤ e ∧ e < 46) → e ≠ 14 → e ≠ 18 → pI σ' e i = pI σ e i) ∧ (∀ e i, pL σ' e i = pL σ e i) ∧ ∀ e i, pR σ' e i = pR σ e i
theorem FW_rf {σ : pS} : FW σ σ := ⟨fun _ _ _ _ _ => rfl, fun _ _ => rfl, fun _ _ => rfl⟩
theorem FW_tr {a b c : pS} (h1 : FW a b) (h2 : FW b c) : FW a c := ⟨fun e i q1 q2 q3 => (h2.1 e i q1 q2 q3).trans (h1.1 e i q1 q2 q3), fun e i => (h2.2.1 e i).trans (h1.2.1 e i), fun e i => (h2.2.2 e i).trans (h1.2.2 e i)⟩
theorem FW_FX {σ σ' : pS} (hv : 46 ≤ vl σ) (h : FW σ σ') : FX σ σ' := ⟨fun e i he => h.1 e i (by omega) (by omega) (by omega), ⟨h.1 0 9 (by omega) (by omega) (by omega), h.1 0 12 (by omega) (by omega) (by omega)⟩, ⟨h.1 3 0 (by omega) (by omega) (by omega), h.1 3 1 (by omega) (by omega) (by omega)⟩, ⟨h.2.1 _ _, h.2.1 _ _⟩, h.2.2 _ _, h.2.2 _ _⟩
theorem FW_only {σ σ' : pS} {e : Nat} (h : only σ σ' e) (he : e = 14 ∨ e = 18) : FW σ σ' := ⟨fun e' i _ q2 q3 => h.1 e' i (by omega), h.2.1, h.2.2⟩
theorem FW_33 {σ σ' : pS} (h : on33 σ σ') : FW σ σ' := ⟨fun e i q _ _ => h.1 e i q, h.2.1, h.2.2⟩
theorem paidWithout_eq {σ τ : pS} (h : RR σ τ) (hp : payX σ (mayS τ)) {p t : Nat} (ht : t < 12) (hpn : p < tn τ) (hl : LTX σ τ (mayS τ) (t + 1)) : ∃ σ', fX2_paidWithout σ (pR σ 0 8) (nI p) (nI t) (asN τ p) = some (stN τ p t, σ') ∧ FW σ σ' ∧ payX σ' (mayS τ) ∧ LTX σ' τ (mayS τ) (t + 1) := by
  have o1 := hN6 h
  have o2 := hD8 h
  have hp8 := pow8 o2
  have ho := h.2.2.2.2.1
  have hv := vl_ge h.2.2.2.1
  have ol := outS_lt ho t
  have dl := diff_le (outS τ t) (2 ^ p)
  have ml : mayO τ t (diff (outS τ t) (2 ^ p)).testBit < 2 ^ td τ := bset_lt _ _
  have mt := mayS_D τ t
  unfold fX2_paidWithout
  rw [pin_lit ht (by decide), nI_clamp (show t < 2 ^ 31 by omega), hp t ht, if_pos rfl, plet_eq, hV h, if_pos rfl, peopleOut_eq h ht, obind_some, q_one (by omega), q_not, payableDebts_eq h ht (by omega), obind_some, show bset (fun d => payB τ (diff (outS τ t) (2 ^ p)).testBit d t) (td τ) = mayO τ t (diff (outS τ t) (2 ^ p)).testBit from rfl]
  simp only [if_true, plet_eq, nI_eq (show mayO τ t (diff (outS τ t) (2 ^ p)).testBit < 2 ^ 31 by omega) (show mayS τ t < 2 ^ 31 by omega)]
  by_cases q : mayO τ t (diff (outS τ t) (2 ^ p)).testBit = mayS τ t
  · rw [if_pos q]
    refine ⟨σ, ?_, FW_rf, hp, hl⟩
    unfold asN stN
    rw [show mki τ p t = mayS τ from funext fun x => by
      unfold mki
      split
      · rename_i z; rw [z]; exact q
      · rfl]
  · rw [if_neg q]
    have F7 : only σ (sI σ 14 t (nI (mayO τ t (diff (outS τ t) (2 ^ p)).testBit))) 14 := only_s
    have R7 : RR (sI σ 14 t (nI (mayO τ t (diff (outS τ t) (2 ^ p)).testBit))) τ := RR_FX h (FX_only hv F7 (by omega))
    have P7 : payX (sI σ 14 t (nI (mayO τ t (diff (outS τ t) (2 ^ p)).testBit))) (mki τ p t) := fun x hx => by
      unfold mki
      by_cases z : x = t
      · rw [if_pos z, z, pI_sI_eq]
      · rw [if_neg z, pI_sI_nj z]; exact hp x hx
    have L7 : LTX (sI σ 14 t (nI (mayO τ t (diff (outS τ t) (2 ^ p)).testBit))) τ (mki τ p t) (t + 1) := fun x x1 x2 s hs => by
      rw [pI_sI_ne (by omega), hl x x1 x2 s hs]
      congr 1
      exact Lo_congr _ _ (fun y y1 y2 => by unfold mki; rw [if_neg (by omega)]) s
    obtain ⟨σ10, b1, b2, b3, b4⟩ := back_eq R7 (mki_lt τ p t) P7 ht L7
    have R10 : RR σ10 τ := on33_RR R7 b2
    obtain ⟨σ13, t1, t2, t3⟩ := trace_eq R10 (mki_lt τ p t) (fun x hx => by rw [b2.1 14 x (by omega)]; exact P7 x hx) b3
    rw [b1, pbind_some, t1, pbind_some]
    have F14 : only σ13 (sI σ13 14 t (nI (mayS τ t))) 14 := only_s
    have W : FW σ (sI σ13 14 t (nI (mayS τ t))) := FW_tr (FW_tr (FW_tr (FW_only F7 (by omega)) (FW_33 b2)) (FW_only t2 (by omega))) (FW_only F14 (by omega))
    have R14 : RR (sI σ13 14 t (nI (mayS τ t))) τ := RR_FX h (FW_FX hv W)
    have e8 : pR σ 0 8 = pR (sI σ13 14 t (nI (mayS τ t))) 0 8 := (W.2.2 0 8).symm
    have pt := xpaidTo_eq R14 hpn (rd := rdN (dpO τ) (mki τ p t) (td τ) 12) (fun d hd => by rw [pI_sI_ne (by decide)]; exact t3 d hd)
    refine ⟨sI σ13 14 t (nI (mayS τ t)), by rw [e8, pt]; rfl, W, fun x hx => ?_, fun x x1 x2 s hs => ?_⟩
    · by_cases z : x = t
      · rw [z, pI_sI_eq]
      · rw [pI_sI_nj z, t2.1 14 x (by decide), b2.1 14 x (by omega), pI_sI_nj z]; exact hp x hx
    · rw [pI_sI_ne (by omega), t2.1 _ _ (by omega), b4 x (by omega) x2, pI_sI_ne (by omega)]
      exact hl x x1 x2 s hs
def syF (τ : pS) (p : Nat) : Nat → Int32 × Int32
  | 0 => (0, -9)
  | t + 1 => if outB τ t p then (if (syF τ p t).2 = -9 then (stN τ p t, nI t) else if stN τ p t ≤ (syF τ p t).1 then syF τ p t else (stN τ p t, nI t)) else syF τ p t
theorem syF_s (τ : pS) (p t : Nat) : syF τ p (t + 1) = if outB τ t p then (if (syF τ p t).2 = -9 then (stN τ p t, nI t) else if stN τ p t ≤ (syF τ p t).1 then syF τ p t else (stN τ p t, nI t)) else syF τ p t := rfl
theorem syF_9 (τ : pS) (p : Nat) : ∀ j, j ≤ 12 → ((syF τ p j).2 = -9 ↔ ∀ t, t < j → outB τ t p = false)
  | 0, _ => ⟨fun _ t h => absurd h (Nat.not_lt_zero t), fun _ => rfl⟩
  | j + 1, h => by
    have ih := syF_9 τ p j (by omega)
    rw [syF_s]
    cases q : outB τ j p
    · rw [if_neg (by decide), ih]
      exact ⟨fun z t ht => by
        by_cases e : t = j
        · rw [e]; exact q
        · exact z t (by omega), fun z t ht => z t (by omega)⟩
    · rw [if_pos rfl]
      have no : ¬ ∀ t, t < j + 1 → outB τ t p = false := fun z => by
        have := z j (by omega)
        rw [q] at this
        exact absurd this (by decide)
      refine ⟨fun z => ?_, fun z => absurd z no⟩
      exfalso
      revert z
      split
      · exact nI_ne_m9 (by omega)
      · rename_i z9
        split
        · exact z9
        · exact nI_ne_m9 (by omega)
theorem xstay {σ τ : pS} (h : RR σ τ) (hp : payX σ (mayS τ)) {p : Nat} (hpn : p < tn τ) (hl : LTX σ τ (mayS τ) 0) (k : Int32 → Int32 → pS → Option (Int32 × pS)) : ∃ σ', lX4_stay_68 (nI p) (asN τ p) k FU 0 (-9) (nI 0) σ = k (syF τ p 12).1 (syF τ p 12).2 σ' ∧ FW σ σ' := by
  have o1 := hN6 h
  have hv := vl_ge h.2.2.2.1
  refine whP (fun F (b : Int32 × Int32 × pS) v => lX4_stay_68 (nI p) (asN τ p) k F b.1 b.2.1 v b.2.2) (n := 12) (by decide) (fun j b => b.1 = (syF τ p j).1 ∧ b.2.1 = (syF τ p j).2 ∧ FW σ b.2.2 ∧ payX b.2.2 (mayS τ) ∧ LTX b.2.2 τ (mayS τ) j) (fun o => ∃ σ', o = k (syF τ p 12).1 (syF τ p 12).2 σ' ∧ FW σ σ') (0, -9, σ) ⟨rfl, rfl, FW_rf, hp, hl⟩ (fun F b hb => ⟨b.2.2, ?_, hb.2.2.1⟩) (fun F b j hj hb => Or.inl ?_)
  · show lX4_stay_68 _ _ _ (F + 1) _ _ _ _ = _
    rw [lX4_stay_68.eq_2, if_pos (show (12 : Int32) ≤ nI 12 by decide), hb.1, hb.2.1]
  · obtain ⟨m, u, s⟩ := b
    obtain ⟨rfl, rfl, b1, b2, b3⟩ := hb
    have hR : RR s τ := RR_FX h (FW_FX hv b1)
    have ol := out_lt h.2.2.2.2.1 hpn
    obtain ⟨s', w1, w2, w3, w4⟩ := paidWithout_eq hR b2 hj hpn (fun x x1 x2 y hy => b3 x (by omega) x2 y hy)
    have step : lX4_stay_68 (nI p) (asN τ p) k (F + 1) (syF τ p j).1 (syF τ p j).2 (nI j) s = if outB τ j p = true then (if (syF τ p j).2 = -9 then lX4_stay_68 (nI p) (asN τ p) k F (stN τ p j) (nI j) (nI (j + 1)) s' else if stN τ p j ≤ (syF τ p j).1 then lX4_stay_68 (nI p) (asN τ p) k F (syF τ p j).1 (syF τ p j).2 (nI (j + 1)) s' else lX4_stay_68 (nI p) (asN τ p) k F (stN τ p j) (nI j) (nI (j + 1)) s') else lX4_stay_68 (nI p) (asN τ p) k F (syF τ p j).1 (syF τ p j).2 (nI (j + 1)) s := by
      rw [lX4_stay_68.eq_2, if_neg (show ¬ (12 : Int32) ≤ nI j from nI_nge (b := 12) hj (by decide)), hV hR, pin_lit (show p < 6 by omega) (by decide), nI_clamp (show p < 2 ^ 31 by omega), hO hR hpn, q_bit (by omega) (by omega), w1, pbind_some, nI_1]
      simp only [if_true, plet_eq, b2i_1]
      rfl
    cases q : outB τ j p
    · refine ⟨((syF τ p (j + 1)).1, (syF τ p (j + 1)).2, s), ?_, rfl, rfl, b1, b2, fun x x1 x2 y hy => b3 x (by omega) x2 y hy⟩
      show lX4_stay_68 _ _ _ (F + 1) _ _ _ _ = lX4_stay_68 _ _ _ F _ _ _ _
      rw [step, syF_s, q]
      rfl
    · refine ⟨((syF τ p (j + 1)).1, (syF τ p (j + 1)).2, s'), ?_, rfl, rfl, FW_tr b1 w2, w3, w4⟩
      show lX4_stay_68 _ _ _ (F + 1) _ _ _ _ = lX4_stay_68 _ _ _ F _ _ _ _
      rw [step, syF_s, q, if_pos rfl, if_pos rfl]
      by_cases z : (syF τ p j).2 = -9
      · rw [if_pos z, if_pos z]
      · rw [if_neg z, if_neg z]
        by_cases y : stN τ p j ≤ (syF τ p j).1
        · rw [if_pos y, if_pos y]
        · rw [if_neg y, if_neg y]
theorem mstay {τ s0 : pS} (ho : Ro τ) (fr : FR τ s0) {p : Nat} (hpn : p < tn τ) (a : Int32) (k : Int32 → Int32 → pS → Option (Int32 × pS)) : ∃ s, lX5_stay_25 (nI p) a k FU (-9) 0 (nI 0) s0 = k (syF τ p 12).2 (syF τ p 12).1 s ∧ FR τ s := by
  have o1 := ho.1
  refine whP (fun F (b : Int32 × Int32 × pS) v => lX5_stay_25 (nI p) a k F b.1 b.2.1 v b.2.2) (n := 12) (by decide) (fun j b => b.1 = (syF τ p j).2 ∧ b.2.1 = (syF τ p j).1 ∧ FR τ b.2.2) (fun o => ∃ s, o = k (syF τ p 12).2 (syF τ p 12).1 s ∧ FR τ s) (-9, 0, s0) ⟨rfl, rfl, fr⟩ (fun F b hb => ⟨b.2.2, ?_, hb.2.2⟩) (fun F b j hj hb => Or.inl ?_)
  · show lX5_stay_25 _ _ _ (F + 1) _ _ _ _ = _
    rw [lX5_stay_25.eq_2, if_pos (show (12 : Int32) ≤ nI 12 by decide), hb.1, hb.2.1]
  · obtain ⟨m, u, s⟩ := b
    obtain ⟨rfl, rfl, fr⟩ := hb
    have os := FR_Ro ho fr
    have lm := FR_LM fr
    have hps : p < tn s := by rw [LM_tn lm]; exact hpn
    show ∃ a' : Int32 × Int32 × pS, lX5_stay_25 (nI p) a k (F + 1) (syF τ p j).2 (syF τ p j).1 (nI j) s = lX5_stay_25 (nI p) a k F a'.1 a'.2.1 (nI (j + 1)) a'.2.2 ∧ a'.1 = (syF τ p (j + 1)).2 ∧ a'.2.1 = (syF τ p (j + 1)).1 ∧ FR τ a'.2.2
    rw [lX5_stay_25.eq_2, if_neg (show ¬ (12 : Int32) ≤ nI j from nI_nge (b := 12) hj (by decide)), isOutE os hps hj, obind_some, LM_out lm]
    simp only [b2i_0]
    cases q : outB τ j p
    · rw [if_pos rfl, nI_1]
      refine ⟨((syF τ p (j + 1)).2, (syF τ p (j + 1)).1, s), ?_, rfl, rfl, fr⟩
      rw [syF_s, q]
      rfl
    · rw [if_neg (by decide), n4 2 (show (2 : Int32) = nI 2 from rfl), pin_lit (show 4 * p + 2 < 24 by omega) (by decide), nI_clamp (show 4 * p + 2 < 2 ^ 31 by omega), tog_val os hps hj]
      have hb := tog_HB os hps hj
      have o1' := HB_Ro os hb
      obtain ⟨s2, m1, m2⟩ := mpaidTo_eq o1' (p := p) (by rw [HB_tn hb]; exact hps)
      obtain ⟨tb1, tb2⟩ := tog_back os hps hj m2
      have val : asN (sI s 7 (4 * p + 2) (nI (outN s p ^^^ 2 ^ j))) p = stN τ p j := by
        unfold asN stN
        rw [ptT_like hb.1, HB_td hb, HB_dpO hb, HB_mayf os hb, tog_mki os hps (by rw [LM_out lm]; exact q), ptT_like (fun i => fr.1 8 i (by decide) (by decide) (by decide)), LM_td lm, LM_dpO lm]
        rw [show mki s p j = mki τ p j from funext fun x => by
          unfold mki mayO
          rw [LM_outS lm, LM_td lm, LM_pay lm, LM_may lm]]
      simp only [if_true, plet_eq, m1, pbind_some, tb1, val, nI_1]
      refine ⟨((syF τ p (j + 1)).2, (syF τ p (j + 1)).1, sI s2 7 (4 * p + 2) (pI s 7 (4 * p + 2))), ?_, rfl, rfl, FR_tr fr tb2⟩
      rw [syF_s, q, if_pos rfl]
      by_cases z : (syF τ p j).2 = -9
      · rw [if_pos z, if_pos z]
      · rw [if_neg z, if_neg z]
        by_cases y : stN τ p j ≤ (syF τ p j).1
        · rw [if_pos y, if_pos y]
        · rw [if_neg y, if_neg y]
theorem o_stay : op_stay RR := by
  intro σ τ a h
  have ho := h.2.2.2.2.1
  have o1 := ho.1
  unfold fX4_stay fX5_stay
  rw [hV h, if_pos rfl]
  rcases isOne_cases h a with ⟨g1, g2⟩ | ⟨p, hp, rfl, g1, g2⟩
  · exact ⟨-1, σ, τ, by rw [show fX3_isPerson σ (pR σ 0 8) a = some 0 from g1]; rfl, by rw [g2]; rfl, h⟩
  rw [show fX3_isPerson σ (pR σ 0 8) (nI p) = some 1 from g1, g2]
  simp only [obind_some, i10, if_false]
  have ol := out_lt ho hp
  obtain ⟨τ5, m1, m2⟩ := mpaidTo_eq ho hp
  obtain ⟨τ9, n1, n2⟩ := mstay ho m2 hp (asN τ p) (fun (y14 : Int32) (y15 : Int32) (σ16 : pS) => if y14 = (-9 : Int32) then some ((-9 : Int32), σ16) else pbind (fX5_tells σ16 (y15 - asN τ p) y14) fun r18 σ19 => some (r18, σ19))
  rw [pin_lit (show p < 6 by omega) (by decide), if_pos rfl, nI_clamp (show p < 2 ^ 31 by omega), hO h hp, m1, pbind_some]
  have o0 : (nI (outN τ p) = 0) = (outN τ p = 0) := nI_lit (by omega) (by decide) rfl
  by_cases q : outN τ p = 0
  · have s9 : (syF τ p 12).2 = -9 := (syF_9 τ p 12 (Nat.le_refl _)).mpr (fun t _ => by unfold outB; rw [q, Nat.zero_testBit])
    refine ⟨-9, σ, τ9, by rw [if_pos (o0.mpr q)], n1.trans (if_pos s9), RR_FM h (FR_FM n2)⟩
  · have s9 : ¬ (syF τ p 12).2 = -9 := fun z => by
      have all := (syF_9 τ p 12 (Nat.le_refl _)).mp z
      apply q
      apply Nat.eq_of_testBit_eq
      intro i
      rw [Nat.zero_testBit]
      by_cases w : i < 12
      · exact all i w
      · exact low_bit (n := 12) ol (by omega)
    rw [if_neg (fun z => q (o0.mp z))]
    obtain ⟨σ6, s1, s2, s3, s4, s5⟩ := solve_eq h
    obtain ⟨σ9, t1, t2, t3⟩ := trace_eq s3 (mayS_D τ) s4 s5
    have R9 : RR σ9 τ := RR_FX s3 (FX_only (vl_ge s3.2.2.2.1) t2 (by omega))
    have as : fX2_paidTo σ9 (pR σ9 0 8) (nI p) = some (asN τ p) := xpaidTo_eq R9 hp t3
    obtain ⟨σ', x1, x2⟩ := xstay R9 (fun x hx => by rw [t2.1 14 x (by decide)]; exact s4 x hx) hp (fun x x1 x2 y hy => by rw [t2.1 _ _ (by omega)]; exact s5 x x1 x2 y hy) (fun (y17 : Int32) (y18 : Int32) (σ19 : pS) => plet (sI σ19 0 9 (y17 - asN τ p)) fun σ20 => some (y18, σ20))
    refine ⟨(syF τ p 12).2, sI σ' 0 9 ((syF τ p 12).1 - asN τ p), sI τ9 0 2 ((syF τ p 12).1 - asN τ p), ?_, n1.trans (if_neg s9), RR_told (RR_F R9 (FW_FX (vl_ge R9.2.2.2.1) x2) (FR_FM n2)) _⟩
    rw [s1, pbind_some, t1, pbind_some, as, obind_some]
    exact x1
