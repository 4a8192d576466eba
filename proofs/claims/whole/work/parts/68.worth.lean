/-! PURE: judge, worth -/
theorem mstep {τ : pS} (ho : Ro τ) {d : Nat} (hd : d < td τ) (hk : okH (pI τ 11 d)) (k : pS → Option (Int32 × pS)) (F : Nat) : lX5_amiss_2 k (F + 1) (nI d) τ = if amN τ d = 0 then lX5_amiss_2 k F (nI (d + 1)) (sI τ 0 22 (nI d)) else some (nI (amN τ d), sI τ 0 22 (nI d)) := by
  have o2 := ho.2.1
  have hf : F22 τ (sI τ 0 22 (nI d)) := F22_s F22_rf _
  have hl := F22_LM hf
  have ho' : Ro (sI τ 0 22 (nI d)) := Ro_frame ho hl
  have hd' : d < td (sI τ 0 22 (nI d)) := by rw [LM_td hl]; exact hd
  rw [lX5_amiss_2.eq_2, ho.2.2.2.1, if_neg (nI_nge (by omega) (by omega)), plet_eq, pin_lit (show d < 8 by omega) (by decide), nI_clamp (by omega), F22_11 hf]
  simp only [if_true]
  rw [← am_like hf]
  unfold amN
  rw [F22_11 hf]
  by_cases q : pI τ 11 d = -9
  · rw [if_pos q, if_pos q, if_pos rfl, nI_1]
  have t := hrN_ok (τ := sI τ 0 22 (nI d)) (d := d) (by rw [F22_11 hf]; exact hk) (by rw [F22_11 hf]; exact q)
  have t1 : pI τ 11 d = nI (hrN (sI τ 0 22 (nI d)) d) := by rw [← F22_11 hf]; exact t.1
  rw [if_neg q, if_neg q, t1, canPay_eq ho' hd' t.2, obind_some]
  simp only [b2i_0]
  by_cases q1 : payB (sI τ 0 22 (nI d)) (outB (sI τ 0 22 (nI d)) (hrN (sI τ 0 22 (nI d)) d)) d (hrN (sI τ 0 22 (nI d)) d) = false
  · rw [if_pos q1, if_pos q1, if_neg (by decide)]
    rfl
  rw [if_neg q1, if_neg q1, minner ho' hd']
  simp only [b2i_0, plet_eq, nI_1]
  cases anyB (laysB (sI τ 0 22 (nI d)) d) d <;> cases anyB (laidB (sI τ 0 22 (nI d)) d) d <;> rfl
theorem mamiss_none {τ : pS} (ho : Ro τ) (hk : ∀ d, d < td τ → okH (pI τ 11 d)) (ha : ∀ d, d < td τ → amN τ d = 0) : ∃ s, fX5_amiss τ = some (0, s) ∧ F22 τ s ∧ pI s 0 22 = 0 := by
  have o2 := ho.2.1
  unfold fX5_amiss
  obtain ⟨s, h1, h2⟩ := whS (fun F s v => lX5_amiss_2 (fun σ19 => plet (sI σ19 0 22 (0 : Int32)) fun σ20 => some ((0 : Int32), σ20)) F v s) (n := td τ) (by omega) (fun j s => F22 τ s) (fun σ19 => plet (sI σ19 0 22 (0 : Int32)) fun σ20 => some ((0 : Int32), σ20)) τ F22_rf (fun F s hs => by
      show lX5_amiss_2 _ (F + 1) _ s = _
      rw [lX5_amiss_2.eq_2, hs.1 0 12 (by decide), ho.2.2.2.1, if_pos (nI_le (Nat.le_refl _) (by omega))]) (fun F s j hj hs => ⟨sI s 0 22 (nI j), by
      show lX5_amiss_2 _ (F + 1) _ s = _
      have hl := F22_LM hs
      rw [mstep (Ro_frame ho hl) (by rw [LM_td hl]; exact hj) (by rw [F22_11 hs]; exact hk j hj), am_like hs, if_pos (ha j hj)], F22_s hs _⟩)
  exact ⟨_, h1, F22_s h2 _, pI_sI_eq⟩
theorem mamiss_some {τ : pS} (ho : Ro τ) (hk : ∀ d, d < td τ → okH (pI τ 11 d)) {d : Nat} (hd : d < td τ) (h1 : ¬ amN τ d = 0) (ha : ∀ e, e < d → amN τ e = 0) : ∃ s, fX5_amiss τ = some (nI (amN τ d), s) ∧ F22 τ s ∧ pI s 0 22 = nI d := by
  have o2 := ho.2.1
  unfold fX5_amiss
  exact whP (fun F s v => lX5_amiss_2 (fun σ19 => plet (sI σ19 0 22 (0 : Int32)) fun σ20 => some ((0 : Int32), σ20)) F v s) (n := d) (by omega) (fun j s => F22 τ s) (fun o => ∃ s, o = some (nI (amN τ d), s) ∧ F22 τ s ∧ pI s 0 22 = nI d) τ F22_rf (fun F s hs => by
      have hl := F22_LM hs
      refine ⟨sI s 0 22 (nI d), ?_, F22_s hs _, pI_sI_eq⟩
      show lX5_amiss_2 _ (F + 1) _ s = _
      rw [mstep (Ro_frame ho hl) (by rw [LM_td hl]; exact hd) (by rw [F22_11 hs]; exact hk d hd), am_like hs, if_neg h1]) (fun F s j hj hs => Or.inl ⟨sI s 0 22 (nI j), by
      show lX5_amiss_2 _ (F + 1) _ s = _
      have hl := F22_LM hs
      rw [mstep (Ro_frame ho hl) (by rw [LM_td hl]; omega) (by rw [F22_11 hs]; exact hk j (by omega)), am_like hs, if_pos (ha j hj)], F22_s hs _⟩)
theorem z3n : ¬ ((0 : Int32) ≤ -3) := by decide
theorem z3e : ¬ ((-3 : Int32) = 0) := by decide
theorem z0l : ((0 : Int32) ≤ 0) := by decide
theorem o_judge : op_judge RR := by
  intro σ τ a h
  unfold fX4_judge fX5_judge
  rcases isRow_cases a with ⟨h1, h2⟩ | ⟨r, hr, rfl, h1, h2⟩
  · refine ⟨-1, σ, τ, ?_, by rw [h2]; rfl, h⟩
    unfold fX4_refuseRound
    rw [h1]
    rfl
  rw [h2, obind_some, if_neg i10]
  rcases round_cases h hr with ⟨f, hf, g1, g2⟩ | ⟨τ1, g1, g2, hR, hrow⟩
  · rw [g1, g2]
    simp only [pbind_some, z3n, z3e, if_false]
    exact ⟨-3, _, _, rfl, rfl, RR_find h hf⟩
  rw [g1, g2]
  simp only [pbind_some, z0l, if_true, pin_lit hr (show 6 ≤ 2 ^ 31 by decide), nI_clamp (show r < 2 ^ 31 by omega), tells_eq, plet_eq]
  have o2 := hD8 hR
  rcases first_cases (amN τ1) (td τ1) with ha | ⟨d, hd, hn, ha⟩
  · obtain ⟨s, s1, s2, s3⟩ := mamiss_none hR.2.2.2.2.1 (fun d hd => (hrow d hd).2) ha
    rw [s1, xfirst_none hR hr hrow ha]
    simp only [pbind_some, obind_some, if_true, s3]
    exact ⟨0, _, _, rfl, rfl, RR_told (RR_FM hR (F22_FM s2)) 0⟩
  · obtain ⟨s, s1, s2, s3⟩ := mamiss_some hR.2.2.2.2.1 (fun d hd => (hrow d hd).2) hd hn ha
    rw [s1, xfirst_some hR hr hrow hd hn ha]
    simp only [pbind_some, obind_some, nI_ne_m9 (show d < 2 ^ 31 by omega), if_false, s3]
    have hT := RR_told hR (nI d)
    have el : LM τ1 (sI τ1 0 2 (nI d)) := (LY_low (τ := τ1) (e := 0) (i := 2) (v := nI d) (by omega)).2.2
    have e11 : ∀ e, pI (sI τ1 0 2 (nI d)) 11 e = pI τ1 11 e := fun e => pI_sI_ne (by decide)
    have ea : amN (sI τ1 0 2 (nI d)) d = amN τ1 d := by
      unfold amN
      rw [show laysB (sI τ1 0 2 (nI d)) d = laysB τ1 d from by funext e; unfold laysB; rw [e11, e11, LM_fN el, LM_fN el], show laidB (sI τ1 0 2 (nI d)) d = laidB τ1 d from by funext e; unfold laidB; rw [e11, e11, LM_dN el, LM_dN el], LM_pay el, LM_out el, e11, show hrN (sI τ1 0 2 (nI d)) d = hrN τ1 d by unfold hrN; rw [e11]]
    have ex := xamiss_eq hT hr (fun e he => by
      rw [LM_td el] at he
      rw [e11, pI_sI_ne (show 20 + r ≠ 0 by omega)]
      exact hrow e he) (show d < td (sI τ1 0 2 (nI d)) by rw [LM_td el]; exact hd)
    rw [ex, ea, obind_some]
    exact ⟨nI (amN τ1 d), _, _, rfl, rfl, RR_told (RR_FM hR (F22_FM s2)) (nI d)⟩
/-! worth -/
def wcI (τ : pS) (d : Nat) : Int32 := costI τ d (if pI τ 11 d = -9 then 12 else pI τ 11 d)
def endN (τ : pS) : Nat → Nat
  | 0 => 0
  | n + 1 => if pI τ 11 n = -9 then endN τ n else max (endN τ n) (hrN τ n + 1)
theorem endN_le {τ : pS} : ∀ n, (∀ d, d < n → okH (pI τ 11 d)) → endN τ n ≤ 12
  | 0, _ => by simp [endN]
  | n + 1, h => by
    have hi := endN_le n (fun d hd => h d (by omega))
    unfold endN
    by_cases q : pI τ 11 n = -9
    · rw [if_pos q]; exact hi
    · have := (hrN_ok (h n (by omega)) q).2
      rw [if_neg q]; omega
theorem m9p1 : (-9 : Int32) + 1 = -8 := by decide
theorem costI_like {τ s : pS} (h : LM τ s) (d : Nat) (x : Int32) : costI s d x = costI τ d x := by unfold costI; rw [h.1 8 (by omega), h.1 8 (by omega)]
theorem xworth_eq {σ τ : pS} (h : RR σ τ) {r : Nat} (hr : r < 6) (hrow : ∀ d, d < td τ → pI σ (20 + r) d = pI τ 11 d ∧ okH (pI τ 11 d)) (k : Int32 → Int32 → Option (Int32 × pS)) : lX4_worth_41 σ (nI r) k FU 0 0 0 = k (sumI (wcI τ) (td τ)) (nI (endN τ (td τ))) := by
  have o2 := hD8 h
  refine whF (fun F (a : Int32 × Int32) v => lX4_worth_41 σ (nI r) k F a.1 a.2 v) (n := td τ) (by omega) (fun j => (sumI (wcI τ) j, nI (endN τ j))) _ (fun F => ?_) (fun F j hj => ?_)
  · show lX4_worth_41 σ _ _ (F + 1) _ _ _ = _
    rw [lX4_worth_41.eq_2, hV h, hD h, if_pos rfl, if_pos (nI_le (Nat.le_refl _) (by omega))]
  · show lX4_worth_41 σ _ _ (F + 1) _ _ _ = lX4_worth_41 σ _ _ F (sumI (wcI τ) j + wcI τ j) (nI (endN τ (j + 1))) _
    have hl := endN_le (τ := τ) j (fun d hd => (hrow d (by omega)).2)
    rw [lX4_worth_41.eq_2, hV h, hD h, if_pos rfl, if_neg (nI_nge (by omega) (by omega)), pin_lit hr (by decide), pin_lit (show j < 60 by omega) (by decide), nI_clamp (by omega), nI_clamp (by omega), (hrow j hj).1, plet_eq, cost_eq h hj]
    simp only [if_true, obind_some, plet_eq, nI_1]
    rw [show endN τ (j + 1) = if pI τ 11 j = -9 then endN τ j else max (endN τ j) (hrN τ j + 1) from rfl]
    unfold wcI
    by_cases q : pI τ 11 j = -9
    · rw [if_pos q, q, m9p1, if_neg (fun z => by
        rw [Int32.lt_iff_toInt_lt, nI_toInt (by omega)] at z
        have e8 : (-8 : Int32).toInt = -8 := by decide
        omega), if_pos rfl]
    · obtain ⟨t1, t2⟩ := hrN_ok (hrow j hj).2 q
      rw [if_neg q, if_neg q, t1, nI_1, nI_max (by omega) (by omega)]
theorem mworth_eq {τ : pS} (ho : Ro τ) (hrow : ∀ d, d < td τ → okH (pI τ 11 d)) (k : Int32 → Int32 → Option (Int32 × pS)) : lX5_worth_42 τ k FU 0 0 0 = k (sumI (wcI τ) (td τ)) (nI (endN τ (td τ))) := by
  have o2 := ho.2.1
  refine whF (fun F (a : Int32 × Int32) v => lX5_worth_42 τ k F a.1 a.2 v) (n := td τ) (by omega) (fun j => (sumI (wcI τ) j, nI (endN τ j))) _ (fun F => ?_) (fun F j hj => ?_)
  · show lX5_worth_42 τ _ (F + 1) _ _ _ = _
    rw [lX5_worth_42.eq_2, ho.2.2.2.1, if_pos (nI_le (Nat.le_refl _) (by omega))]
  · show lX5_worth_42 τ _ (F + 1) _ _ _ = lX5_worth_42 τ _ F (sumI (wcI τ) j + wcI τ j) (nI (endN τ (j + 1))) _
    have hl := endN_le (τ := τ) j (fun d hd => hrow d (by omega))
    rw [lX5_worth_42.eq_2, ho.2.2.2.1, if_neg (nI_nge (by omega) (by omega)), pin_lit (show j < 8 by omega) (by decide), nI_clamp (by omega)]
    simp only [if_true, obind_some, plet_eq, nI_1, costOf_eq (show j < 8 by omega)]
    rw [show endN τ (j + 1) = if pI τ 11 j = -9 then endN τ j else max (endN τ j) (hrN τ j + 1) from rfl]
    unfold wcI
    by_cases q : pI τ 11 j = -9
    · rw [if_pos q, if_pos q, if_pos q, if_pos q]
    · obtain ⟨t1, t2⟩ := hrN_ok (hrow j hj) q
      rw [if_neg q, if_neg q, if_neg q, if_neg q, t1, nI_1]
      unfold fX5_greater
      by_cases z : endN τ j ≤ hrN τ j + 1
      · rw [if_pos (nI_le z (by omega)), Nat.max_eq_right z]
        rfl
      · rw [if_neg (nI_nge (by omega) (by omega)), Nat.max_eq_left (by omega)]
        rfl
theorem o_worth : op_worth RR := by
  intro σ τ a h
  unfold fX4_worth fX5_worth
  rcases isRow_cases a with ⟨h1, h2⟩ | ⟨r, hr, rfl, h1, h2⟩
  · refine ⟨-1, σ, τ, ?_, by rw [h2]; rfl, h⟩
    unfold fX4_refuseRound
    rw [h1]
    rfl
  rw [h2, obind_some, if_neg i10]
  rcases round_cases h hr with ⟨f, hf, g1, g2⟩ | ⟨τ1, g1, g2, hR, hrow⟩
  · rw [g1, g2]
    simp only [pbind_some, z3n, z3e, if_false]
    exact ⟨-3, _, _, rfl, rfl, RR_find h hf⟩
  rw [g1, g2]
  simp only [pbind_some, z0l, if_true, pin_lit hr (show 6 ≤ 2 ^ 31 by decide), nI_clamp (show r < 2 ^ 31 by omega)]
  have o2 := hD8 hR
  rcases first_cases (amN τ1) (td τ1) with ha | ⟨d, hd, hn, ha⟩
  · obtain ⟨s, s1, s2, s3⟩ := mamiss_none hR.2.2.2.2.1 (fun d hd => (hrow d hd).2) ha
    have hS := RR_FM hR (F22_FM s2)
    have hl := F22_LM s2
    rw [s1, xfirst_none hR hr hrow ha]
    simp only [pbind_some, obind_some, if_true]
    rw [xworth_eq hS hr (fun d hd => by rw [F22_11 s2]; exact hrow d (by rw [← LM_td hl]; exact hd)), mworth_eq hS.2.2.2.2.1 (fun d hd => by rw [F22_11 s2]; exact (hrow d (by rw [← LM_td hl]; exact hd)).2)]
    simp only [plet_eq, tells_eq, pbind_some]
    exact ⟨_, _, _, rfl, rfl, RR_told hS _⟩
  · obtain ⟨s, s1, s2, s3⟩ := mamiss_some hR.2.2.2.2.1 (fun d hd => (hrow d hd).2) hd hn ha
    rw [s1, xfirst_some hR hr hrow hd hn ha]
    simp only [pbind_some, obind_some, nI_ne_m9 (show d < 2 ^ 31 by omega), if_false, nI_am, hn, xf3, mf3]
    exact ⟨-3, _, _, rfl, rfl, RR_find (RR_FM hR (F22_FM s2)) (by decide)⟩
