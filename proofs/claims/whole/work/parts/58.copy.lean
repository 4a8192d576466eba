/-! PURE: on, mean, copy -/
theorem o_on : op_on RR := by
  intro σ τ a h
  have v1 : isV (pR σ 0 8) = true := h.2.2.2.1.1
  have hv := vl_ge h.2.2.2.1
  have o2 := h.2.2.2.2.1.2.1
  have o4 := h.2.2.2.2.1.2.2.2.1
  unfold fX4_on fX5_on
  rcases keepPlace_cases a with ⟨g1, g2⟩ | ⟨c, hc, rfl, g1, g2⟩
  · exact ⟨-1, σ, τ, by rw [g1]; rfl, by rw [g2]; rfl, h⟩
  rw [g1, g2]
  have q := h.2.2.2.2.2.1 c hc
  simp only [obind_some, i10, if_false, pin_lit hc (show 3 ≤ 2 ^ 31 by decide), nI_clamp (show c < 2 ^ 31 by omega), if_true]
  rcases q with ⟨q1, q2⟩ | ⟨q1, q2, q3⟩
  · rw [q1, q2]
    simp only [if_true, xf1, mf1, pbind_some]
    exact ⟨-3, _, _, rfl, rfl, RR_find h (by decide)⟩
  rw [q1, q2]
  simp only [i10, if_false]
  obtain ⟨τ1, f1, f2, f3, f4⟩ := whS (fun F s v => lX5_on_28 (nI c) (fun (σ4 : pS) => (fX5_paidNow σ4).bind fun r6 => some (r6, σ4)) F v s) (n := td τ) (by omega) (fun j s => (∀ d, d < j → pI s 8 (5 * d + 4) = pI τ 17 (8 * c + d)) ∧ (∀ d k, (k < 4 ∨ td τ ≤ d) → k < 5 → pI s 8 (5 * d + k) = pI τ 8 (5 * d + k)) ∧ only τ s 8) (fun (σ4 : pS) => (fX5_paidNow σ4).bind fun r6 => some (r6, σ4)) τ ⟨fun d hd => absurd hd (Nat.not_lt_zero d), fun _ _ _ _ => rfl, only_rf⟩ (fun F s hs => by
      show lX5_on_28 _ _ (F + 1) _ s = _
      rw [lX5_on_28.eq_2, hs.2.2.1 0 12 (by decide), o4, if_pos (nI_le (Nat.le_refl _) (by omega))]) (fun F s j hj hs => ⟨sI s 8 (5 * j + 4) (pI τ 17 (8 * c + j)), by
      show lX5_on_28 _ _ (F + 1) _ s = _
      rw [lX5_on_28.eq_2, hs.2.2.1 0 12 (by decide), o4, if_neg (nI_nge (by omega) (by omega)), n8, n5 4 (show (4 : Int32) = nI 4 from rfl), pin_lit (show 8 * c + j < 24 by omega) (by decide), pin_lit (show 5 * j + 4 < 40 by omega) (by decide), nI_clamp (show 8 * c + j < 2 ^ 31 by omega), nI_clamp (show 5 * j + 4 < 2 ^ 31 by omega), hs.2.2.1 17 _ (by decide)]
      simp only [if_true, plet_eq, nI_1], by
      refine ⟨fun d hd => ?_, fun d k hk hk5 => ?_, ⟨fun e i he => ?_, fun e i => ?_, fun e i => ?_⟩⟩
      · by_cases e : d = j
        · rw [e, pI_sI_eq]
        · rw [pI_sI_nj (by omega)]; exact hs.1 d (by omega)
      · rw [pI_sI_nj (by omega)]; exact hs.2.1 d k hk hk5
      · rw [pI_sI_ne he]; exact hs.2.2.1 e i he
      · exact hs.2.2.2.1 e i
      · exact hs.2.2.2.2 e i⟩)
  unfold fX0_restore
  simp only [pin_lit hc (show 3 ≤ 2 ^ 31 by decide), nI_clamp (show c < 2 ^ 31 by omega), if_true, pcp8, plet_eq, pbind_some]
  let σ1 := sF σ 9 (va_cpy (σ.1 (30 + c)) (σ.1 9) ((0 : Int32)).toNatClampNeg ((0 : Int32)).toNatClampNeg ((8 : Int32)).toNatClampNeg)
  have en : tn τ1 = tn τ := by unfold tn; rw [f4.1 0 10 (by decide)]
  have ed : td τ1 = td τ := by unfold td; rw [f4.1 0 12 (by decide)]
  have xo : ∀ e i, e ≠ 9 → pI σ1 e i = pI σ e i := fun e i q1 => by
    show pI (sF σ 9 _) e i = _
    rw [pI_sF, if_neg q1]
  have x9 : ∀ d, d < 8 → pI σ1 9 d = pI σ (30 + c) d := fun d hd => by
    show pI (sF σ 9 _) 9 d = _
    rw [pI_sF, if_pos rfl, cpy8 _ _ hd]
    rfl
  obtain ⟨w1, w2, w3, w4, w5, w6, w7, w8⟩ := h.2.2.2.1
  have hR : RR σ1 τ1 := by
    refine RR_vil h (fun e i he h9 => xo e i h9) (fun _ _ => rfl) (fun e i q0 q7 q8 => f4.1 e i q8) (fun i hi => f4.1 0 i (by decide)) (fun d k hk => f3 d k (Or.inl hk) (by omega)) (fun e i => f4.2.1 e i) ?_ ?_
    · refine ⟨w1, w2, w3, ?_, ?_, ?_, fun p hp => ?_, fun d hd => ?_⟩
      · exact xm (xo (vl σ) 0 (by omega)) (f4.1 0 10 (by decide)) w4
      · exact xm (xo (vl σ) 1 (by omega)) (f4.1 0 12 (by decide)) w5
      · exact xm (xo (vl σ) 2 (by omega)) (f4.1 0 14 (by decide)) w6
      · rw [en] at hp
        obtain ⟨y1, y2, y3, y4⟩ := w7 p hp
        exact ⟨xm (xo (vl σ + 1) p (by omega)) (f4.1 7 _ (by decide)) y1, xm (xo (vl σ + 2) p (by omega)) (f4.1 7 _ (by decide)) y2, xm (xo (vl σ + 3) p (by omega)) (f4.1 7 _ (by decide)) y3, xm (xo (vl σ + 4) p (by omega)) (f4.1 7 _ (by decide)) y4⟩
      · rw [ed] at hd
        obtain ⟨y1, y2, y3, y4, y5⟩ := w8 d hd
        exact ⟨xm (xo (vl σ + 5) d (by omega)) (f3 d 0 (by omega) (by omega)) y1, xm (xo (vl σ + 6) d (by omega)) (f3 d 1 (by omega) (by omega)) y2, xm (xo (vl σ + 7) d (by omega)) (f3 d 2 (by omega) (by omega)) y3, xm (xo (vl σ + 8) d (by omega)) (f3 d 3 (by omega) (by omega)) y4, xm (x9 d (by omega)) (f2 d hd) (q3 d hd).1⟩
    · obtain ⟨z1, z2, z3, z4, -, z6, z7⟩ := h.2.2.2.2.1
      unfold Ro okP
      rw [en, ed]
      have e7 : ∀ i, pI τ1 7 i = pI τ 7 i := fun i => f4.1 7 i (by decide)
      simp only [e7, f4.1 0 10 (show 0 ≠ 8 by decide), f4.1 0 12 (show 0 ≠ 8 by decide), f4.1 0 14 (show 0 ≠ 8 by decide)]
      refine ⟨z1, z2, z3, z4, h.2.2.2.2.1.2.2.2.2.1, z6, fun d hd => ?_⟩
      have t0 := f3 d 0 (by omega) (by omega)
      have t1 := f3 d 1 (by omega) (by omega)
      have t2 := f3 d 2 (by omega) (by omega)
      have t3 := f3 d 3 (by omega) (by omega)
      have t4 := f2 d hd
      have ok := (q3 d hd).2
      obtain ⟨x, y, v, i, k1, k2, k3, k4, k5, k6, k7, k8, k9, k10, k11⟩ := z7 d hd
      unfold okD
      rw [en]
      exact ⟨x, y, v, i, k1, k2, k3, k4, k5, k6, t0.trans k7, t1.trans k8, t2.trans k9, t3.trans k10, by rw [t4]; exact ok⟩
  have v5' : pI σ1 (pR σ1 0 8) 1 = nI (td τ) := (hR.2.2.2.1.2.2.2.2.1).trans ((f4.1 0 12 (by decide)).trans o4)
  have v1' : isV (pR σ1 0 8) = true := v1
  refine ⟨nI (cnt (pdX σ1) (td τ)), σ1, τ1, ?_, ?_, hR⟩
  · show (if isV (pR σ1 0 8) = true then (fX0_howManyPaid σ1 (pI σ1 (pR σ1 0 8) 1)).bind fun r8 => some (r8, σ1) else none) = _
    rw [v1', v5', xpaid_eq σ1 o2]
    rfl
  · refine f1.trans ?_
    rw [mpaid_eq τ1 hR.2.2.2.2.1, ed, ← ed, ← pd_like hR, ed]
    rfl
def sumL (f : Nat → Int32) : Nat → Int64
  | 0 => 0
  | n + 1 => sumL f n + (f n).toInt64
theorem sumL_congr {f g : Nat → Int32} : ∀ n, (∀ i, i < n → f i = g i) → sumL f n = sumL g n
  | 0, _ => rfl
  | n + 1, h => by unfold sumL; rw [sumL_congr n (fun i hi => h i (by omega)), h n (by omega)]
theorem nI_64 {s : Nat} (h0 : 0 < s) (h : s < 2 ^ 31) : ¬ (nI s).toInt64 = 0 := by
  rw [nI_l h, show (0 : Int64) = lN 0 from rfl, lN_eq h (by decide)]
  omega
theorem o_mean : op_mean RR := by
  intro σ τ a h
  unfold fX4_mean fX5_mean
  rcases isRow_cases a with ⟨h1, h2⟩ | ⟨k, hk, rfl, h1, h2⟩
  · exact ⟨-1, σ, τ, by rw [h1]; rfl, by rw [h2]; rfl, h⟩
  have hp : pin (nI k) 6 = true := pin_lit hk (by decide)
  have hc : (nI k).toNatClampNeg = k := nI_clamp (by omega)
  rw [h1, h2]
  simp only [obind_some, hp, hc, if_true, plet_eq, i10, if_false]
  rcases h.2.1 k hk with ⟨e1, e2⟩ | ⟨s, hs, e1, e2, e3⟩
  · rw [e1, e2]
    simp only [if_true, nI_m1_nge, if_false, xf1, mf1, pbind_some]
    exact ⟨-3, _, _, rfl, rfl, RR_find h (by decide)⟩
  by_cases q : s = 0
  · subst q
    rw [e1, e2]
    simp only [nI_ne_m1 (show 0 < 2 ^ 31 by omega), if_false, nI_ge0 (show 0 < 2 ^ 31 by omega), if_true, show ¬ (1 : Int32) ≤ nI 0 by decide, show nI 0 = 0 from rfl, xf4, mf4, pbind_some]
    exact ⟨-3, _, _, rfl, rfl, RR_find h (by decide)⟩
  have q0 : 0 < s := by omega
  have q1 : (1 : Int32) ≤ nI s := nI_le (a := 1) (by omega) (by omega)
  rw [e1, e2]
  simp only [nI_ne_m1 (show s < 2 ^ 31 by omega), if_false, nI_ge0 (show s < 2 ^ 31 by omega), if_true, q1, nI_ne0 q0 (show s < 2 ^ 31 by omega), nI_64 q0 (show s < 2 ^ 31 by omega), tells_eq, pbind_some]
  have es : sumL (pI σ (20 + k)) s = sumL (fun i => pI τ 3 (60 * k + i)) s := sumL_congr s (fun i hi => e3 i hi)
  refine ⟨1, sI σ 0 9 ((sumL (fun i => pI τ 3 (60 * k + i)) s / (nI s).toInt64)).toInt32, sI τ 0 2 ((sumL (fun i => pI τ 3 (60 * k + i)) s / (nI s).toInt64)).toInt32, ?_, ?_, RR_told h _⟩
  · rw [← es]
    refine whF (fun F (x : Int64) v => lX4_mean_43 σ (nI k) (nI s) _ F x v) (n := s) (by omega) (fun j => sumL (pI σ (20 + k)) j) _ (fun F => ?_) (fun F j hj => ?_)
    · show lX4_mean_43 σ _ _ _ (F + 1) _ _ = _
      rw [lX4_mean_43.eq_2, if_pos (nI_le (Nat.le_refl _) (by omega))]
    · show lX4_mean_43 σ _ _ _ (F + 1) _ _ = _
      rw [lX4_mean_43.eq_2, if_neg (nI_nge (by omega) (by omega)), hp, hc, pin_lit (show j < 60 by omega) (by decide), nI_clamp (show j < 2 ^ 31 by omega)]
      simp only [if_true, plet_eq, nI_1, sumL]
  · refine whF (fun F (x : Int64) v => lX5_mean_44 τ (nI k) _ F x v) (n := s) (by omega) (fun j => sumL (fun i => pI τ 3 (60 * k + i)) j) _ (fun F => ?_) (fun F j hj => ?_)
    · show lX5_mean_44 τ _ _ (F + 1) _ _ = _
      rw [lX5_mean_44.eq_2, hp, hc, e2, if_pos rfl, if_pos (nI_le (Nat.le_refl _) (by omega))]
    · show lX5_mean_44 τ _ _ (F + 1) _ _ = _
      rw [lX5_mean_44.eq_2, hp, hc, e2, if_pos rfl, if_neg (nI_nge (by omega) (by omega)), rowAt_eq hk (show j < 60 by omega)]
      simp only [plet_eq, nI_1, sumL, obind_some]
