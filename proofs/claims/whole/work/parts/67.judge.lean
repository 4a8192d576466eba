/-! PURE: the reference's amiss; judge, worth -/
theorem LM_kN {τ τ' : pS} (h : LM τ τ') (p : Nat) : kN τ' p = kN τ p := by unfold kN; rw [h.1 7 (by omega)]
theorem LM_mN {τ τ' : pS} (h : LM τ τ') (p : Nat) : mN τ' p = mN τ p := by unfold mN; rw [h.1 7 (by omega)]
theorem LM_oN {τ τ' : pS} (h : LM τ τ') (p : Nat) : outN τ' p = outN τ p := by unfold outN; rw [h.1 7 (by omega)]
theorem LM_fN {τ τ' : pS} (h : LM τ τ') (d : Nat) : fN τ' d = fN τ d := by unfold fN; rw [h.1 8 (by omega)]
theorem LM_dN {τ τ' : pS} (h : LM τ τ') (d : Nat) : tN τ' d = tN τ d := by unfold tN; rw [h.1 8 (by omega)]
theorem LM_vN {τ τ' : pS} (h : LM τ τ') (d : Nat) : vN τ' d = vN τ d := by unfold vN; rw [h.1 8 (by omega)]
theorem LM_iN {τ τ' : pS} (h : LM τ τ') (d : Nat) : iN τ' d = iN τ d := by unfold iN; rw [h.1 8 (by omega)]
theorem LM_wN {τ τ' : pS} (h : LM τ τ') : wN τ' = wN τ := by unfold wN; rw [h.2.2.2]
theorem LM_out {τ τ' : pS} (h : LM τ τ') (t : Nat) : outB τ' t = outB τ t := by funext p; unfold outB; rw [LM_oN h]
theorem LM_left {τ τ' : pS} (h : LM τ τ') : leftB τ' = leftB τ := by funext o p; unfold leftB; rw [LM_kN h, LM_mN h]
theorem LM_dog {τ τ' : pS} (h : LM τ τ') : dogB τ' = dogB τ := by funext p t; unfold dogB; rw [LM_kN h]
theorem LM_empty {τ τ' : pS} (h : LM τ τ') : emptyB τ' = emptyB τ := by funext o p t; unfold emptyB; rw [LM_wN h, LM_left h, LM_dog h]
theorem LM_pay {τ τ' : pS} (h : LM τ τ') : payB τ' = payB τ := by funext o d t; unfold payB; rw [LM_fN h, LM_dN h, LM_empty h]
theorem LM_may {τ τ' : pS} (h : LM τ τ') (t : Nat) : mayS τ' t = mayS τ t := by unfold mayS; rw [LM_td h, LM_pay h, LM_out h]
theorem LM_fit {τ τ' : pS} (h : LM τ τ') (s n : Nat) : fitT τ' s n = fitT τ s n := fit_like (h.1 8 (by omega)) s n
theorem LM_rate {τ τ' : pS} (h : LM τ τ') (s n : Nat) : rateT τ' s n = rateT τ s n := rate_like (h.1 8 (by omega)) s n
def F22 (τ s : pS) : Prop := (∀ e i, ¬ (e = 0 ∧ i = 22) → pI s e i = pI τ e i) ∧ ∀ e i, pL s e i = pL τ e i
theorem F22_rf {τ : pS} : F22 τ τ := ⟨fun _ _ _ => rfl, fun _ _ => rfl⟩
theorem F22_s {τ s : pS} (h : F22 τ s) (x : Int32) : F22 τ (sI s 0 22 x) := ⟨fun e i hn => by rw [pI_sI, if_neg hn]; exact h.1 e i hn, h.2⟩
theorem F22_FM {τ s : pS} (h : F22 τ s) : FM τ s := ⟨fun e i q1 q2 q3 q4 q5 q6 q7 q8 => h.1 e i (by omega), fun i hi => h.1 0 i (by omega), h.2 0 3, h.2 0 4⟩
theorem F22_LM {τ s : pS} (h : F22 τ s) : LM τ s := (FM_LY (F22_FM h)).2.2
theorem F22_11 {τ s : pS} (h : F22 τ s) (d : Nat) : pI s 11 d = pI τ 11 d := h.1 11 d (by omega)
theorem am_like {τ s : pS} (h : F22 τ s) (d : Nat) : amN s d = amN τ d := by
  have h2 := F22_LM h
  unfold amN
  rw [show laysB s d = laysB τ d from by funext e; unfold laysB; rw [F22_11 h, F22_11 h, LM_fN h2, LM_fN h2], show laidB s d = laidB τ d from by funext e; unfold laidB; rw [F22_11 h, F22_11 h, LM_dN h2, LM_dN h2], LM_pay h2, LM_out h2, F22_11 h, show hrN s d = hrN τ d by unfold hrN; rw [F22_11 h]]
theorem minner {τ : pS} (ho : Ro τ) {d : Nat} (hd : d < td τ) (k : Int32 → Int32 → Option (Int32 × pS)) : lX5_amiss_49 τ (nI d) k FU 0 0 0 = k (b2i (anyB (laysB τ d) d)) (b2i (anyB (laidB τ d) d)) := by
  have o1 := ho.1
  have o2 := ho.2.1
  refine whF (fun F (a : Int32 × Int32) v => lX5_amiss_49 τ (nI d) k F a.1 a.2 v) (n := d) (by omega) (fun j => (b2i (anyB (laysB τ d) j), b2i (anyB (laidB τ d) j))) _ (fun F => ?_) (fun F j hj => ?_)
  · show lX5_amiss_49 τ _ _ (F + 1) _ _ _ = _
    rw [lX5_amiss_49.eq_2, if_pos (nI_le (Nat.le_refl _) (by omega))]
  · show lX5_amiss_49 τ _ _ (F + 1) _ _ _ = lX5_amiss_49 τ _ _ F (b2i (anyB (laysB τ d) j || laysB τ d j)) (b2i (anyB (laidB τ d) j || laidB τ d j)) _
    have hj' : j < td τ := by omega
    obtain ⟨⟨a1, a2⟩, ⟨b1, b2⟩, -⟩ := dN_ok ho hd
    obtain ⟨⟨c1, c2⟩, ⟨d1, d2⟩, -⟩ := dN_ok ho hj'
    rw [lX5_amiss_49.eq_2, if_neg (nI_nge (by omega) (by omega)), pin_lit (show j < 8 by omega) (by decide), pin_lit (show d < 8 by omega) (by decide), nI_clamp (show j < 2 ^ 31 by omega), nI_clamp (show d < 2 ^ 31 by omega), debt0 ho hj', debt1 ho hj', debt0 ho hd, debt1 ho hd]
    simp only [if_true, plet_eq, obind_some, nI_1, nI_eq (show fN τ j < 2 ^ 31 by omega) (show fN τ d < 2 ^ 31 by omega), nI_eq (show tN τ j < 2 ^ 31 by omega) (show tN τ d < 2 ^ 31 by omega), b2i_0]
    unfold laysB laidB
    by_cases z1 : pI τ 11 j = pI τ 11 d
    · by_cases z2 : fN τ j = fN τ d
      · by_cases z3 : tN τ j = tN τ d
        · rw [if_pos z1, if_pos z2, if_pos z1, if_pos z3, decide_eq_true z1, decide_eq_true z2, decide_eq_true z3]
          cases anyB (fun e => decide (pI τ 11 e = pI τ 11 d) && decide (fN τ e = fN τ d)) j <;> cases anyB (fun e => decide (pI τ 11 e = pI τ 11 d) && decide (tN τ e = tN τ d)) j <;> rfl
        · rw [if_pos z1, if_pos z2, if_pos z1, if_neg z3, decide_eq_true z1, decide_eq_true z2, decide_eq_false z3]
          cases anyB (fun e => decide (pI τ 11 e = pI τ 11 d) && decide (fN τ e = fN τ d)) j <;> cases anyB (fun e => decide (pI τ 11 e = pI τ 11 d) && decide (tN τ e = tN τ d)) j <;> rfl
      · by_cases z3 : tN τ j = tN τ d
        · rw [if_pos z1, if_neg z2, if_pos z1, if_pos z3, decide_eq_true z1, decide_eq_false z2, decide_eq_true z3]
          cases anyB (fun e => decide (pI τ 11 e = pI τ 11 d) && decide (fN τ e = fN τ d)) j <;> cases anyB (fun e => decide (pI τ 11 e = pI τ 11 d) && decide (tN τ e = tN τ d)) j <;> first | rfl | (rw [if_pos z1, if_pos z3]; rfl) | (simp [z1, z3, b2i])
        · rw [if_pos z1, if_neg z2, if_pos z1, if_neg z3, decide_eq_true z1, decide_eq_false z2, decide_eq_false z3]
          cases anyB (fun e => decide (pI τ 11 e = pI τ 11 d) && decide (fN τ e = fN τ d)) j <;> cases anyB (fun e => decide (pI τ 11 e = pI τ 11 d) && decide (tN τ e = tN τ d)) j <;> first | rfl | (simp [z1, z3, b2i])
    · rw [if_neg z1, if_neg z1, decide_eq_false z1]
      cases anyB (fun e => decide (pI τ 11 e = pI τ 11 d) && decide (fN τ e = fN τ d)) j <;> cases anyB (fun e => decide (pI τ 11 e = pI τ 11 d) && decide (tN τ e = tN τ d)) j <;> first | rfl | (simp [z1, b2i])
