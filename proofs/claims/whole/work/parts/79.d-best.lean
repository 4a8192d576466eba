/-! PURE: best -/
theorem mbest_fill {τ : pS} (ho : Ro τ) {r : Nat} (hr : r < 6) (k : pS → Option (Int32 × pS)) : ∃ τ', lX5_best_25 (nI r) k FU (nI 0) τ = k τ' ∧ only τ τ' 3 ∧ (∀ i, i < td τ → pI τ' 3 (60 * r + i) = pI τ 11 i) ∧ ∀ i, (i < 60 * r ∨ 60 * r + 60 ≤ i) → pI τ' 3 i = pI τ 3 i := by
  have o2 := ho.2.1
  obtain ⟨τ', h1, h2, h3, h4⟩ := whS (fun F s v => lX5_best_25 (nI r) k F v s) (n := 60) (by omega) (fun j s => only τ s 3 ∧ (∀ i, i < j → i < td τ → pI s 3 (60 * r + i) = pI τ 11 i) ∧ ∀ i, (i < 60 * r ∨ 60 * r + 60 ≤ i) → pI s 3 i = pI τ 3 i) k τ ⟨only_rf, fun d hd => absurd hd (Nat.not_lt_zero d), fun _ _ => rfl⟩ (fun F s hs => by
      show lX5_best_25 _ _ (F + 1) _ s = _
      rw [lX5_best_25.eq_2, if_pos (show (60 : Int32) ≤ nI 60 by decide)]) (fun F s j hj hs => by
      have e : lX5_best_25 (nI r) k (F + 1) (nI j) s = if td τ ≤ j then lX5_best_25 (nI r) k F (nI (j + 1)) (sI s 3 (60 * r + j) 0) else lX5_best_25 (nI r) k F (nI (j + 1)) (sI s 3 (60 * r + j) (pI τ 11 j)) := by
        rw [lX5_best_25.eq_2, if_neg (show ¬ (60 : Int32) ≤ nI j from nI_nge (b := 60) hj (by decide)), hs.1.1 0 12 (by decide), ho.2.2.2.1, n60, pin_lit (show 60 * r + j < 360 by omega) (by decide), nI_clamp (show 60 * r + j < 2 ^ 31 by omega), nI_clamp (show j < 2 ^ 31 by omega), hs.1.1 11 j (by decide)]
        simp only [nI_leI (show td τ < 2 ^ 31 by omega) (show j < 2 ^ 31 by omega), if_true, plet_eq, nI_1]
        by_cases q : td τ ≤ j
        · rw [if_pos q, if_pos q]
        · rw [if_neg q, if_neg q, pin_lit (show j < 8 by omega) (by decide)]
          rfl
      by_cases q : td τ ≤ j
      · refine ⟨sI s 3 (60 * r + j) 0, ?_, only_tr hs.1 only_s, fun i i1 i2 => ?_, fun i hi => ?_⟩
        · show lX5_best_25 _ _ (F + 1) _ s = _
          rw [e, if_pos q]
        · rw [pI_sI_nj (by omega)]; exact hs.2.1 i (by omega) i2
        · rw [pI_sI_nj (by omega)]; exact hs.2.2 i hi
      · refine ⟨sI s 3 (60 * r + j) (pI τ 11 j), ?_, only_tr hs.1 only_s, fun i i1 i2 => ?_, fun i hi => ?_⟩
        · show lX5_best_25 _ _ (F + 1) _ s = _
          rw [e, if_neg q]
        · by_cases z : i = j
          · rw [z, pI_sI_eq]
          · rw [pI_sI_nj (by omega)]; exact hs.2.1 i (by omega) i2
        · rw [pI_sI_nj (by omega)]; exact hs.2.2 i hi)
  exact ⟨τ', h1, h2, fun i hi => h3 i (by omega) hi, h4⟩
theorem LM_av {τ τ' : pS} (h : LM τ τ') : ∀ n, avN τ' n = avN τ n
  | 0 => rfl
  | n + 1 => by rw [avN_s, avN_s, LM_av h n, LM_vN h]
theorem o_best : op_best RR := by
  intro σ τ a h
  unfold fX4_best fX5_best
  rcases isRow_cases a with ⟨h1, h2⟩ | ⟨r, hr, rfl, h1, h2⟩
  · exact ⟨-1, σ, τ, by rw [h1]; rfl, by rw [h2]; rfl, h⟩
  rw [h1, h2]
  simp only [obind_some, i10, if_false]
  have ho := h.2.2.2.2.1
  have o2 := hD8 h
  have hp8 := pow8 o2
  have hp : pin (nI r) 6 = true := pin_lit hr (by decide)
  have hc : (nI r).toNatClampNeg = r := nI_clamp (by omega)
  -- the reference
  obtain ⟨τ5, m1, m2, m3, m4⟩ := layRound_eq ho
  have o5 := FR_Ro ho m2
  have lm5 := FR_LM m2
  have e5 : td τ5 = td τ := LM_td lm5
  have R5 : RR σ τ5 := RR_FM h (FR_FM m2)
  have os6 : Ro (sI τ5 2 r (nI (td τ5))) := Ro_frame o5 (FM_LY FM_rf).2.2 |> fun _ => by
    refine Ro_frame o5 ⟨fun e he i => pI_sI_ne (by omega), ?_, ?_, ?_⟩ <;> exact pI_sI_ne (by decide)
  have td6 : td (sI τ5 2 r (nI (td τ5))) = td τ5 := by unfold td; rw [pI_sI_ne (by decide)]
  -- the class
  obtain ⟨σ5, s1, s2, s3, s4, s5⟩ := solve_eq h
  obtain ⟨σ8, t1, t2, t3⟩ := trace_eq s3 (mayS_D τ) s4 s5
  have R8 : RR σ8 τ := RR_FX s3 (FX_only (vl_ge s3.2.2.2.1) t2 (by omega))
  have R85 : RR σ8 τ5 := RR_FM R8 (FR_FM m2)
  obtain ⟨σ9, f1, f2, f3⟩ := xfillI (row_isA r hr).1 (row_isA r hr).2 (by decide) (-9) σ8
  have v8 : pR σ9 0 8 = pR σ8 0 8 := f3.2.2 0 8
  have vl8 := vl_ge R8.2.2.2.1
  have d8 : pI σ9 (pR σ8 0 8) 1 = nI (td τ) := by
    have : pR σ8 0 8 = vl σ8 := rfl
    rw [f3.1 _ _ (by omega)]; exact hD R8
  have lay : fX4_layOutRow σ8 (nI r) (pI σ8 (pR σ8 0 8) 1) (-9) = some ((), sI σ9 5 r (nI (td τ))) := by
    unfold fX4_layOutRow
    rw [hp, hc, f1, hD R8]
    rfl
  have c18 : ∀ i, i < td τ → pI σ9 18 i = rdN (dpO τ) (mayS τ) (td τ) 12 i := fun i hi => by rw [f3.1 18 i (by omega)]; exact t3 i hi
  obtain ⟨τ9, g1, g2, g3, g4⟩ := mbest_fill os6 hr (fun (σ9 : pS) => (fX5_bestCost σ9).bind fun r11 => (fX5_paidMany σ9).bind fun r13 => pbind (fX5_tells σ9 r11 r13) fun r15 σ16 => some (r15, σ16))
  have e9 : td τ9 = td τ := by unfold td; rw [g2.1 0 12 (by decide), pI_sI_ne (by decide)]; exact e5
  have ve : pR (sI σ9 5 r (nI (td τ))) 0 8 = pR σ8 0 8 := v8
  have dl : (nI (td τ)).toNatClampNeg = td τ := nI_clamp (by omega)
  -- the two together
  have RF : RR (sF (sI σ9 5 r (nI (td τ))) (20 + r) (va_cpy ((sI σ9 5 r (nI (td τ))).1 18) ((sI σ9 5 r (nI (td τ))).1 (20 + r)) ((0 : Int32)).toNatClampNeg ((0 : Int32)).toNatClampNeg (td τ))) τ9 := by
    refine RR_row1 (k := r) R85 hr (fun e i q1 q2 => by rw [pI_sF, if_neg q2, pI_sI_ne q1, f3.1 e i q2]) (fun q hq => by rw [pI_sF, if_neg (by omega), pI_sI_nj hq, f3.1 5 q (by omega)]) (fun e i => by rw [pL_sF, pL_sI, f3.2.1]) (fun e i => by rw [pR_sF, pR_sI, f3.2.2]) (fun e i q1 q2 => by rw [g2.1 e i q2, pI_sI_ne q1]) (fun q hq => by rw [g2.1 2 q (by decide), pI_sI_nj hq]) (fun q i q1 q2 => by rw [g4 _ (by omega), pI_sI_ne (by decide)]) (fun e i => by rw [g2.2.1, pL_sI]) (Or.inr ⟨td τ, by omega, by rw [pI_sF, if_neg (by omega), pI_sI_eq], by rw [g2.1 2 r (by decide), pI_sI_eq, e5], fun i hi => ?_⟩)
    rw [pI_sF, if_pos rfl, g3 i (by rw [td6, e5]; exact hi), pI_sI_ne (by decide), m4 i hi, ← c18 i hi]
    rw [show ((0 : Int32)).toNatClampNeg = 0 by decide, pk_cpy_in (by omega) (by omega), Nat.zero_add, Nat.sub_zero]
    show pI (sI σ9 5 r (nI (td τ))) 18 i = _
    rw [pI_sI_ne (by decide)]
  have lok : lossOk τ (Lo (dpO τ) (mayS τ) 12 0 0) := Lo_ok ho _ (by decide)
  have ll := LoO_lt ho (mayS τ) 12 0 0
  have lm9 : LM τ τ9 := by
    have l6 : LM τ5 τ9 := ⟨fun e he i => by rw [g2.1 e i (by omega), pI_sI_ne (by omega)], by rw [g2.1 0 10 (by decide), pI_sI_ne (by decide)], by rw [g2.1 0 12 (by decide), pI_sI_ne (by decide)], by rw [g2.1 0 14 (by decide), pI_sI_ne (by decide)]⟩
    exact ⟨fun e he i => (l6.1 e he i).trans (lm5.1 e he i), l6.2.1.trans lm5.2.1, l6.2.2.1.trans lm5.2.2.1, l6.2.2.2.trans lm5.2.2.2⟩
  have c12 : pI τ9 12 0 = nI (awN τ 0 (td τ)) - nI (Lo (dpO τ) (mayS τ) 12 0 0) := by
    rw [g2.1 12 0 (by decide), pI_sI_ne (by decide)]
    have := (m3 0 (Nat.le_refl _) (by decide) 0 (Nat.two_pow_pos _)).1
    exact this
  have lossF : ∀ ρ : pS, (∀ e i, 33 ≤ e → e < 46 → pI ρ e i = pI σ8 e i) → fX2_leastLoss ρ = some (nI (Lo (dpO τ) (mayS τ) 12 0 0)) := fun ρ hρ => leastLoss_eq (τ := τ) (fun u u1 u2 s hs => by
    rw [hρ _ _ (by omega) (by omega), t2.1 _ _ (by omega)]
    exact s5 u u1 u2 s hs)
  refine ⟨nI (td τ - Lo (dpO τ) (mayS τ) 12 0 0 / 10000), sI (sF (sI σ9 5 r (nI (td τ))) (20 + r) (va_cpy ((sI σ9 5 r (nI (td τ))).1 18) ((sI σ9 5 r (nI (td τ))).1 (20 + r)) ((0 : Int32)).toNatClampNeg ((0 : Int32)).toNatClampNeg (td τ))) 0 9 (nI (avN τ (td τ) + Lo (dpO τ) (mayS τ) 12 0 0 % 10000)), sI τ9 0 2 (nI (avN τ (td τ) + Lo (dpO τ) (mayS τ) 12 0 0 % 10000)), ?_, ?_, RR_told RF _⟩
  · rw [s1, pbind_some, t1, pbind_some, hV R8, if_pos rfl, lay, pbind_some, hp, if_pos rfl, ve, hV R8, if_pos rfl, hc]
    rw [show pI (sI σ9 5 r (nI (td τ))) (pR σ8 0 8) 1 = nI (td τ) by rw [pI_sI_ne (by have : pR σ8 0 8 = vl σ8 := rfl; omega)]; exact d8, show pcp wX 18 (20 + r) 8 60 (0 : Int32) (0 : Int32) (nI (td τ)) = true from pcp_ok (i := 0) (j := 0) (by omega) (by omega) (by decide) (by decide), if_pos rfl, plet_eq, dl]
    have av := xvalues_eq RF
    rw [e9, LM_av lm9] at av
    rw [hV RF, if_pos rfl, av, obind_some, lossF _ (fun e i q1 q2 => by rw [pI_sF, if_neg (by omega), pI_sI_ne (by omega), f3.1 _ _ (by omega)]), obind_some, interestOf_eq (by omega), obind_some, plet_eq, nI_add, lossF _ (fun e i q1 q2 => by rw [pI_sI_ne (by omega), pI_sF, if_neg (by omega), pI_sI_ne (by omega), f3.1 _ _ (by omega)]), obind_some]
    have po := paidOf_eq (RR_told RF (nI (avN τ (td τ) + Lo (dpO τ) (mayS τ) 12 0 0 % 10000))) (L := Lo (dpO τ) (mayS τ) 12 0 0) (by
      unfold lossOk
      rw [show td (sI τ9 0 2 (nI (avN τ (td τ) + Lo (dpO τ) (mayS τ) 12 0 0 % 10000))) = td τ by unfold td; rw [pI_sI_nj (by decide)]; exact e9]
      exact lok)
    rw [show td (sI τ9 0 2 (nI (avN τ (td τ) + Lo (dpO τ) (mayS τ) 12 0 0 % 10000))) = td τ by unfold td; rw [pI_sI_nj (by decide)]; exact e9] at po
    rw [po]
    rfl
  · rw [m1, pbind_some, hp, if_pos rfl, hc, o5.2.2.2.1, plet_eq]
    refine g1.trans ?_
    rw [bestCost_eq ho lok c12, obind_some, paidMany_eq ho lok c12, obind_some]
    rfl
