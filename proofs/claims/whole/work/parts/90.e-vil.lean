/-! PURE: village, at last -/
theorem forget_eq (σ : pS) : ∃ σ', fX0_forget σ = some ((), σ') ∧ (∀ e i, e ≠ 9 → e ≠ 11 → pI σ' e i = pI σ e i) ∧ (∀ e i, pL σ' e i = pL σ e i) ∧ (∀ e i, pR σ' e i = pR σ e i) ∧ (∀ i, i < 8 → pI σ' 9 i = -9) ∧ ∀ i, i < 3 → pI σ' 11 i = 0 := by
  unfold fX0_forget
  obtain ⟨σ1, f1, f2, f3⟩ := xfillI (e := 9) (n := 8) (by decide) (by decide) (by decide) (-9) σ
  rw [f1, pbind_some]
  obtain ⟨σ', g1, g2, g3⟩ := whS (fun F s v => lX0_forget_11 (fun (σ5 : pS) => some ((), σ5)) F v s) (n := 3) (by decide) (fun j s => only σ1 s 11 ∧ ∀ i, i < j → pI s 11 i = 0) (fun (σ5 : pS) => some ((), σ5)) σ1 ⟨only_rf, fun i hi => absurd hi (Nat.not_lt_zero i)⟩ (fun F s hs => by
      show lX0_forget_11 _ (F + 1) _ s = _
      rw [lX0_forget_11.eq_2, if_pos (show (3 : Int32) ≤ nI 3 by decide)]) (fun F s j hj hs => ⟨sI s 11 j 0, by
      show lX0_forget_11 _ (F + 1) _ s = _
      rw [lX0_forget_11.eq_2, if_neg (show ¬ (3 : Int32) ≤ nI j from nI_nge (b := 3) hj (by decide)), pin_lit hj (by decide), nI_clamp (show j < 2 ^ 31 by omega), nar0]
      simp only [if_true, plet_eq, nI_1], only_tr hs.1 only_s, fun d hd => by
        by_cases q : d = j
        · rw [q, pI_sI_eq]
        · rw [pI_sI_nj q]; exact hs.2 d (by omega)⟩)
  refine ⟨σ', g1, fun e i q1 q2 => by rw [g2.1 e i q2, f3.1 e i q1], fun e i => by rw [g2.2.1, f3.2.1], fun e i => by rw [g2.2.2, f3.2.2], fun i hi => by rw [g2.1 9 i (by decide)]; exact f2 i hi, g3⟩
theorem mcopy7 (τ : pS) (k : pS → Option (Int32 × pS)) : ∃ τ', lX5_village_60 k FU (nI 0) τ = k τ' ∧ only τ τ' 7 ∧ ∀ i, i < 24 → pI τ' 7 i = pI τ 9 i := whS (fun F s v => lX5_village_60 k F v s) (n := 24) (by decide) (fun j s => only τ s 7 ∧ ∀ i, i < j → pI s 7 i = pI τ 9 i) k τ ⟨only_rf, fun i hi => absurd hi (Nat.not_lt_zero i)⟩ (fun F s hs => by
      show lX5_village_60 _ (F + 1) _ s = _
      rw [lX5_village_60.eq_2, if_pos (show (24 : Int32) ≤ nI 24 by decide)]) (fun F s j hj hs => ⟨sI s 7 j (pI τ 9 j), by
      show lX5_village_60 _ (F + 1) _ s = _
      rw [lX5_village_60.eq_2, if_neg (show ¬ (24 : Int32) ≤ nI j from nI_nge (b := 24) hj (by decide)), pin_lit hj (by decide), nI_clamp (show j < 2 ^ 31 by omega), hs.1.1 9 j (by decide)]
      simp only [if_true, plet_eq, nI_1], only_tr hs.1 only_s, fun d hd => by
        by_cases q : d = j
        · rw [q, pI_sI_eq]
        · rw [pI_sI_nj q]; exact hs.2 d (by omega)⟩)
theorem mcopy8 (τ : pS) (k : pS → Option (Int32 × pS)) : ∃ τ', lX5_village_86 k FU (nI 0) τ = k τ' ∧ only τ τ' 8 ∧ ∀ i, i < 40 → pI τ' 8 i = pI τ 10 i := whS (fun F s v => lX5_village_86 k F v s) (n := 40) (by decide) (fun j s => only τ s 8 ∧ ∀ i, i < j → pI s 8 i = pI τ 10 i) k τ ⟨only_rf, fun i hi => absurd hi (Nat.not_lt_zero i)⟩ (fun F s hs => by
      show lX5_village_86 _ (F + 1) _ s = _
      rw [lX5_village_86.eq_2, if_pos (show (40 : Int32) ≤ nI 40 by decide)]) (fun F s j hj hs => ⟨sI s 8 j (pI τ 10 j), by
      show lX5_village_86 _ (F + 1) _ s = _
      rw [lX5_village_86.eq_2, if_neg (show ¬ (40 : Int32) ≤ nI j from nI_nge (b := 40) hj (by decide)), pin_lit hj (by decide), nI_clamp (show j < 2 ^ 31 by omega), hs.1.1 10 j (by decide)]
      simp only [if_true, plet_eq, nI_1], only_tr hs.1 only_s, fun d hd => by
        by_cases q : d = j
        · rw [q, pI_sI_eq]
        · rw [pI_sI_nj q]; exact hs.2 d (by omega)⟩)
theorem mzero16 (τ : pS) (k : pS → Option (Int32 × pS)) : ∃ τ', lX5_village_112 k FU (nI 0) τ = k τ' ∧ only τ τ' 16 ∧ ∀ i, i < 3 → pI τ' 16 i = 0 := whS (fun F s v => lX5_village_112 k F v s) (n := 3) (by decide) (fun j s => only τ s 16 ∧ ∀ i, i < j → pI s 16 i = 0) k τ ⟨only_rf, fun i hi => absurd hi (Nat.not_lt_zero i)⟩ (fun F s hs => by
      show lX5_village_112 _ (F + 1) _ s = _
      rw [lX5_village_112.eq_2, if_pos (show (3 : Int32) ≤ nI 3 by decide)]) (fun F s j hj hs => ⟨sI s 16 j 0, by
      show lX5_village_112 _ (F + 1) _ s = _
      rw [lX5_village_112.eq_2, if_neg (show ¬ (3 : Int32) ≤ nI j from nI_nge (b := 3) hj (by decide)), pin_lit hj (by decide), nI_clamp (show j < 2 ^ 31 by omega), nar0]
      simp only [if_true, plet_eq, nI_1], only_tr hs.1 only_s, fun d hd => by
        by_cases q : d = j
        · rw [q, pI_sI_eq]
        · rw [pI_sI_nj q]; exact hs.2 d (by omega)⟩)
/-- a village handed over -/
theorem RR_hand {σ τ : pS} (h : RR σ τ) {k n : Nat} {σ1 τ1 : pS} {np nd : Nat} (A : RA σ τ k n σ1 τ1 n np nd) {σ2 τ2 : pS} (x0 : ∀ e i, e ≠ 9 → e ≠ 11 → e ≠ 12 → e ≠ 13 → e ≠ 3 → pI σ2 e i = pI σ1 e i) (xL : ∀ e i, pL σ2 e i = pL σ1 e i) (x8 : pR σ2 0 8 = vs σ) (x4 : pR σ2 1 4 = vl σ) (x9 : ∀ i, i < 8 → pI σ2 9 i = -9) (x11 : ∀ i, i < 3 → pI σ2 11 i = 0) (x30 : pI σ2 3 0 = nI nd) (x31 : pI σ2 3 1 = nI (2 ^ nd - 1)) (xt : ∀ s, s < 2 ^ nd → pI σ2 12 s = b2i (fitT τ2 s nd) ∧ pI σ2 13 s = nI (rateT τ2 s nd)) (m0 : ∀ e i, e ≠ 7 → e ≠ 8 → e ≠ 16 → ¬ (e = 0 ∧ (i = 10 ∨ i = 12 ∨ i = 14)) → pI τ2 e i = pI τ1 e i) (mL : ∀ e i, pL τ2 e i = pL τ1 e i) (m10 : pI τ2 0 10 = nI np) (m12 : pI τ2 0 12 = nI nd) (m14 : pI τ2 0 14 = 0) (m7 : ∀ i, i < 24 → pI τ2 7 i = pI τ1 9 i) (m8 : ∀ i, i < 40 → pI τ2 8 i = pI τ1 10 i) (m16 : ∀ i, i < 3 → pI τ2 16 i = 0) : RR σ2 τ2 := by
  have tv := two_vil h
  obtain ⟨f1, f2, ⟨-, -, -⟩, -, ⟨v1, v2⟩, ⟨v3, v4, v5⟩, ⟨v6, v7⟩, v8, v9⟩ := A
  have en : tn τ2 = np := by unfold tn; rw [m10, nI_clamp (by omega)]
  have ed : td τ2 = nd := by unfold td; rw [m12, nI_clamp (by omega)]
  have el : vl σ2 = vs σ := x8
  have es : vs σ2 = vl σ := x4
  have sx : ∀ e i, e ≠ 9 → e ≠ 11 → e ≠ 12 → e ≠ 13 → e ≠ 3 → e ≠ 1 → ¬ (vs σ ≤ e ∧ e ≤ vs σ + 8) → pI σ2 e i = pI σ e i := fun e i q1 q2 q3 q4 q5 q6 q7 => by rw [x0 e i q1 q2 q3 q4 q5, f1.1 e i q6 q7]
  have sm : ∀ e i, e ≠ 7 → e ≠ 8 → e ≠ 16 → e ≠ 9 → e ≠ 10 → ¬ (e = 0 ∧ 10 ≤ i) → pI τ2 e i = pI τ e i := fun e i q1 q2 q3 q4 q5 q6 => by rw [m0 e i q1 q2 q3 (by omega), f2.1 e i q4 q5 (by omega)]
  refine ⟨?_, ?_, ?_, ?_, ?_, ?_, ?_⟩
  · obtain ⟨a1, a2, a3, a4, a5⟩ := h.1
    refine ⟨?_, ?_, ?_, ?_, fun f hf => ?_⟩
    · rw [sx 0 9 (by omega) (by omega) (by omega) (by omega) (by omega) (by omega) (by omega), sm 0 2 (by omega) (by omega) (by omega) (by omega) (by omega) (by omega)]; exact a1
    · rw [xL, f1.2.1, mL, f2.2]; exact a2
    · rw [xL, f1.2.1, mL, f2.2]; exact a3
    · rw [sx 0 12 (by omega) (by omega) (by omega) (by omega) (by omega) (by omega) (by omega), sm 0 0 (by omega) (by omega) (by omega) (by omega) (by omega) (by omega)]; exact a4
    · rw [sx 8 f (by omega) (by omega) (by omega) (by omega) (by omega) (by omega) (by omega), sm 1 f (by omega) (by omega) (by omega) (by omega) (by omega) (by omega)]; exact a5 f hf
  · exact Rr_frame h.2.1 (fun e he i => sx e i (by omega) (by omega) (by omega) (by omega) (by omega) (by omega) (by omega)) (fun e he i => sm e i (by omega) (by omega) (by omega) (by omega) (by omega) (by omega))
  · exact Rt_frame h.2.2.1 (fun e he i => sx e i (by omega) (by omega) (by omega) (by omega) (by omega) (by omega) (by omega)) (fun e he i => sm e i (by omega) (by omega) (by omega) (by omega) (by omega) (by omega))
  · refine ⟨by rw [el]; exact h.2.2.2.1.2.1, by rw [es]; exact h.2.2.2.1.1, by rw [el, es]; exact fun z => h.2.2.2.1.2.2.1 z.symm, ?_, ?_, ?_, fun p hp => ?_, fun d hd => ?_⟩
    · rw [el, x0 _ _ (by omega) (by omega) (by omega) (by omega) (by omega), v3, m10]
    · rw [el, x0 _ _ (by omega) (by omega) (by omega) (by omega) (by omega), v4, m12]
    · rw [el, x0 _ _ (by omega) (by omega) (by omega) (by omega) (by omega), v5, m14]
    · rw [en] at hp
      obtain ⟨⟨w1, w2, w3, w4⟩, -⟩ := v8 p hp
      rw [el, x0 _ _ (by omega) (by omega) (by omega) (by omega) (by omega), x0 _ _ (by omega) (by omega) (by omega) (by omega) (by omega), x0 _ _ (by omega) (by omega) (by omega) (by omega) (by omega), x0 _ _ (by omega) (by omega) (by omega) (by omega) (by omega), m7 _ (by omega), m7 _ (by omega), m7 _ (by omega), m7 _ (by omega)]
      exact ⟨w1, w2, w3, w4⟩
    · rw [ed] at hd
      obtain ⟨⟨w1, w2, w3, w4, w5⟩, -⟩ := v9 d hd
      rw [el, x0 _ _ (by omega) (by omega) (by omega) (by omega) (by omega), x0 _ _ (by omega) (by omega) (by omega) (by omega) (by omega), x0 _ _ (by omega) (by omega) (by omega) (by omega) (by omega), x0 _ _ (by omega) (by omega) (by omega) (by omega) (by omega), m8 _ (by omega), m8 _ (by omega), m8 _ (by omega), m8 _ (by omega), m8 _ (by omega), x9 d (by omega)]
      exact ⟨w1, w2, w3, w4, w5.symm⟩
  · refine ⟨by omega, by omega, by rw [en]; exact m10, by rw [ed]; exact m12, ⟨0, by decide, by rw [m14]; rfl⟩, fun p hp => ?_, fun d hd => ?_⟩
    · rw [en] at hp
      obtain ⟨-, kd, k1, k2, k3, k4, k5, k6⟩ := v8 p hp
      unfold okP
      rw [en, m7 _ (by omega), m7 _ (by omega), m7 _ (by omega), m7 _ (by omega)]
      exact ⟨kd, k1, k2, k3, k4, k5, 5, by decide, k6⟩
    · rw [ed] at hd
      obtain ⟨⟨-, -, -, -, w5⟩, x, y, v, i, k1, k2, k3, k4, k5, k6, k7, k8, k9, k10⟩ := v9 d hd
      unfold okD
      rw [en, m8 _ (by omega), m8 _ (by omega), m8 _ (by omega), m8 _ (by omega), m8 _ (by omega)]
      exact ⟨x, y, v, i, k1, k2, k3, k4, k5, k6, k7, k8, k9, k10, Or.inl w5⟩
  · exact fun q hq => Or.inl ⟨x11 q hq, m16 q hq⟩
  · refine ⟨by rw [ed]; exact x30, by rw [ed]; exact x31, fun s hs => ?_⟩
    rw [ed] at hs ⊢
    exact xt s hs
set_option maxHeartbeats 100000 in
theorem vil_M {τ τ1 : pS} {k np nd : Nat} (hk : k < 4) (h2 : fX5_isText (nI k) = some 1) {n : Nat} (hs : n ≤ 120) (e2 : pI τ 5 k = nI n) (g2 : fX5_faultOf τ (nI k) = some (-9, τ1)) (v6 : pI τ1 0 17 = nI np) (v7 : pI τ1 0 18 = nI nd) : ∃ τc, fX5_village τ (nI k) = some (nI np, τc) ∧ (∀ e i, e ≠ 7 → e ≠ 8 → e ≠ 16 → ¬ (e = 0 ∧ (i = 10 ∨ i = 12 ∨ i = 14)) → pI τc e i = pI τ1 e i) ∧ (∀ e i, pL τc e i = pL τ1 e i) ∧ pI τc 0 10 = nI np ∧ pI τc 0 12 = nI nd ∧ pI τc 0 14 = 0 ∧ (∀ i, i < 24 → pI τc 7 i = pI τ1 9 i) ∧ (∀ i, i < 40 → pI τc 8 i = pI τ1 10 i) ∧ ∀ i, i < 3 → pI τc 16 i = 0 := by
  generalize hS : sI (sI (sI τ1 0 10 (nI np)) 0 12 (nI nd)) 0 14 0 = S
  have sI0 : ∀ e i, ¬ (e = 0 ∧ (i = 10 ∨ i = 12 ∨ i = 14)) → pI S e i = pI τ1 e i := fun e i q4 => by
    rw [← hS, pI_sI, if_neg (by omega), pI_sI, if_neg (by omega), pI_sI, if_neg (by omega)]
  have s10 : pI S 0 10 = nI np := by rw [← hS, pI_sI_nj (by decide), pI_sI_nj (by decide), pI_sI_eq]
  have s12 : pI S 0 12 = nI nd := by rw [← hS, pI_sI_nj (by decide), pI_sI_eq]
  have s14 : pI S 0 14 = 0 := by rw [← hS, pI_sI_eq]
  have sL0 : ∀ e i, pL S e i = pL τ1 e i := fun e i => by rw [← hS, pL_sI, pL_sI, pL_sI]
  generalize hk3 : (fun (σ14 : pS) => some ((pI σ14 0 10), σ14)) = k3
  generalize hk2 : (fun (σ12 : pS) => lX5_village_112 k3 FU (0 : Int32) σ12) = k2
  generalize hk1 : (fun (σ10 : pS) => lX5_village_86 k2 FU (0 : Int32) σ10) = k1
  obtain ⟨τa, a1, a2, a3⟩ := mcopy7 S k1
  obtain ⟨τb, b1, b2, b3⟩ := mcopy8 τa k2
  obtain ⟨τc, d1, d2, d3⟩ := mzero16 τb k3
  rw [show nI 0 = (0 : Int32) from rfl] at a1 b1 d1
  have e18 : pI (sI τ1 0 10 (nI np)) 0 18 = nI nd := by rw [pI_sI_nj (by decide)]; exact v7
  have m10 : pI τc 0 10 = nI np := by rw [d2.1 0 _ (by decide), b2.1 0 _ (by decide), a2.1 0 _ (by decide), s10]
  refine ⟨τc, ?_, fun e i q1 q2 q3 q4 => by rw [d2.1 e i q3, b2.1 e i q2, a2.1 e i q1, sI0 e i q4], fun e i => by rw [d2.2.1, b2.2.1, a2.2.1, sL0], m10, by rw [d2.1 0 _ (by decide), b2.1 0 _ (by decide), a2.1 0 _ (by decide), s12], by rw [d2.1 0 _ (by decide), b2.1 0 _ (by decide), a2.1 0 _ (by decide), s14], fun i hi => by rw [d2.1 7 i (by decide), b2.1 7 i (by decide), a3 i hi, sI0 9 i (by omega)], fun i hi => by rw [d2.1 8 i (by decide), b3 i hi, a2.1 10 i (by decide), sI0 10 i (by omega)], d3⟩
  have r1 : k1 τa = lX5_village_86 k2 FU 0 τa := by rw [← hk1]
  have r2 : k2 τb = lX5_village_112 k3 FU 0 τb := by rw [← hk2]
  have r3 : k3 τc = some (nI np, τc) := by
    rw [← hk3]
    show some (pI τc 0 10, τc) = _
    rw [m10]
  unfold fX5_village
  rw [h2, obind_some, if_neg i10, pin_lit hk (by decide), if_pos rfl, nI_clamp (show k < 2 ^ 31 by omega), e2, if_pos (nI_ge0 (by omega)), g2, pbind_some, if_pos rfl, v6, plet_eq, e18, plet_eq, plet_eq, hS, hk3, hk2, hk1, a1, r1, b1, r2, d1, r3]
set_option maxHeartbeats 100000 in
theorem vil_X {σ τ σ1 τ1 : pS} (h : RR σ τ) {k n np nd : Nat} (hk : k < 4) (h1 : fX4_isText (nI k) = some 1) (hs : n ≤ 120) (e1 : pI σ 7 k = nI n) (g1 : fX1_read σ (26 + k) (nI n) = some (-9, σ1)) (A : RA σ τ k n σ1 τ1 n np nd) {τc : pS} (m8 : ∀ i, i < 40 → pI τc 8 i = pI τ1 10 i) : ∃ σ4, fX4_village σ (nI k) = some (nI np, σ4) ∧ (∀ e i, e ≠ 9 → e ≠ 11 → e ≠ 12 → e ≠ 13 → e ≠ 3 → pI σ4 e i = pI σ1 e i) ∧ (∀ e i, pL σ4 e i = pL σ1 e i) ∧ pR σ4 0 8 = vs σ ∧ pR σ4 1 4 = vl σ ∧ (∀ i, i < 8 → pI σ4 9 i = -9) ∧ (∀ i, i < 3 → pI σ4 11 i = 0) ∧ pI σ4 3 0 = nI nd ∧ pI σ4 3 1 = nI (2 ^ nd - 1) ∧ ∀ s, s < 2 ^ nd → pI σ4 12 s = b2i (fitT τc s nd) ∧ pI σ4 13 s = nI (rateT τc s nd) := by
  have tv := two_vil h
  obtain ⟨f1, f2, ⟨-, -, -⟩, -, ⟨v1, v2⟩, ⟨v3, v4, v5⟩, ⟨v6, v7⟩, v8, v9⟩ := A
  have r8 : pR σ1 0 8 = vl σ := f1.2.2.1 0 8 (by omega)
  have r4 : pR σ1 1 4 = vs σ := f1.2.2.1 1 4 (by omega)
  have hand : fX1_handOver σ1 (pR σ1 0 8) = some (vs σ, sR σ1 1 4 (vl σ)) := by
    unfold fX1_handOver
    rw [r8, r4, plet_eq]
  obtain ⟨σ3, c1, c2, c3, c4, c5, c6⟩ := forget_eq (sR (sR σ1 1 4 (vl σ)) 0 8 (vs σ))
  have q8 : pR σ3 0 8 = vs σ := by rw [c4, pR_sR, if_pos ⟨rfl, rfl⟩]
  have q4 : pR σ3 1 4 = vl σ := by rw [c4, pR_sR, if_neg (by omega), pR_sR, if_pos ⟨rfl, rfl⟩]
  have x3 : ∀ e i, e ≠ 9 → e ≠ 11 → pI σ3 e i = pI σ1 e i := fun e i q1 q2 => by rw [c2 e i q1 q2, pI_sR, pI_sR]
  have z12 : pI σ3 12 0 = 1 := by
    rw [x3 12 0 (by decide) (by decide), f1.1 12 0 (by decide) (by omega), fitX h (Nat.two_pow_pos _), (dpO_gd τ).1, b2i_t]
  have z13 : pI σ3 13 0 = 0 := by
    rw [x3 13 0 (by decide) (by decide), f1.1 13 0 (by decide) (by omega), rateX h (Nat.two_pow_pos _), (dpO_gd τ).2]
    decide
  obtain ⟨σ4, l1, l2, l3, l4, l5, l6, l7⟩ := learn_eq (σ := σ3) (τ := τc) (w := vs σ) (nd := nd) h.2.2.2.1.2.1 v2 (by rw [x3 _ _ (by omega) (by omega)]; exact v4) (fun d hd => by
    rw [x3 _ _ (by omega) (by omega), m8 _ (by omega)]; exact (v9 d hd).1.1) (fun d hd => by
    rw [x3 _ _ (by omega) (by omega), m8 _ (by omega)]; exact (v9 d hd).1.2.1) (fun d hd => by
    obtain ⟨⟨-, -, -, w4, -⟩, x, y, v, i, k1, k2, k3, k4, k5, k6, k7, k8, k9, k10⟩ := v9 d hd
    rw [x3 _ _ (by omega) (by omega), w4]
    unfold iN
    rw [m8 _ (by omega), k10, nI_clamp (by omega)]) z12 z13
  have x5 : ∀ e i, e ≠ 9 → e ≠ 11 → e ≠ 12 → e ≠ 13 → e ≠ 3 → pI σ4 e i = pI σ1 e i := fun e i q1 q2 q3 q4 q5 => by rw [l2 e i q3 q4 q5, x3 e i q1 q2]
  have q8' : pR σ4 0 8 = vs σ := by rw [l4]; exact q8
  refine ⟨σ4, ?_, x5, fun e i => by rw [l3, c3, pL_sR, pL_sR], q8', by rw [l4]; exact q4, fun i hi => by rw [l2 9 i (by decide) (by decide) (by decide)]; exact c5 i hi, fun i hi => by rw [l2 11 i (by decide) (by decide) (by decide)]; exact c6 i hi, l5, l6, l7⟩
  unfold fX4_village
  rw [h1, obind_some, if_neg i10, pin_lit hk (by decide), if_pos rfl, nI_clamp (show k < 2 ^ 31 by omega), e1, if_neg (nI_ne_m1 (by omega)), if_pos rfl, if_pos rfl, g1, pbind_some, if_pos rfl, hand, pbind_some, plet_eq, c1, pbind_some, q8, l1, pbind_some, q8', h.2.2.2.1.2.1, if_pos rfl, x5 _ _ (by omega) (by omega) (by omega) (by omega) (by omega), v3]
set_option maxHeartbeats 100000 in
theorem o_village : op_village RR := by
  intro σ τ a h
  rcases isText_cases a with ⟨h1, h2⟩ | ⟨k, hk, rfl, h1, h2⟩
  · refine ⟨-1, σ, τ, ?_, ?_, h⟩
    · unfold fX4_village; rw [h1, obind_some, if_pos rfl]
    · unfold fX5_village; rw [h2, obind_some, if_pos rfl]
  rcases h.2.2.1 k hk with ⟨e1, e2⟩ | ⟨n, hs, e1, e2, e3⟩
  · refine ⟨-3, xfind σ 1, mfind τ 1, ?_, ?_, RR_find h (by decide)⟩
    · unfold fX4_village; rw [h1, obind_some, if_neg i10, pin_lit hk (by decide), if_pos rfl, nI_clamp (show k < 2 ^ 31 by omega), e1, if_pos rfl, xf1, pbind_some]
    · unfold fX5_village; rw [h2, obind_some, if_neg i10, pin_lit hk (by decide), if_pos rfl, nI_clamp (show k < 2 ^ 31 by omega), e2, if_neg nI_m1_nge, mf1, pbind_some]
  · obtain ⟨r, σ1, τ1, g1, g2, g3⟩ := read_both h hk hs e2 e3
    rcases g3 with ⟨rfl, np, nd, A⟩ | ⟨p, pn, rfl, Z⟩
    · obtain ⟨τc, y1, m0, mL, m10, m12, m14, m7, m8, m16⟩ := vil_M hk h2 hs e2 g2 A.2.2.2.2.2.2.1.1 A.2.2.2.2.2.2.1.2
      obtain ⟨σ4, w1, x0, xL, x8, x4, x9, x11, x30, x31, xt⟩ := vil_X h hk h1 hs e1 g1 A m8
      exact ⟨nI np, σ4, τc, w1, y1, RR_hand h A x0 xL x8 x4 x9 x11 x30 x31 xt m0 mL m10 m12 m14 m7 m8 m16⟩
    · refine ⟨-4, σ1, τ1, ?_, ?_, RR_F h (FrX_FX h Z.1) (FrM_FM Z.2.1)⟩
      · unfold fX4_village; rw [h1, obind_some, if_neg i10, pin_lit hk (by decide), if_pos rfl, nI_clamp (show k < 2 ^ 31 by omega), e1, if_neg (nI_ne_m1 (by omega)), if_pos rfl, if_pos rfl, g1, pbind_some, if_neg (nI_ne_m9 (by omega))]
      · unfold fX5_village; rw [h2, obind_some, if_neg i10, pin_lit hk (by decide), if_pos rfl, nI_clamp (show k < 2 ^ 31 by omega), e2, if_pos (nI_ge0 (by omega)), g2, pbind_some, if_neg (nI_ne_m9 (by omega))]
