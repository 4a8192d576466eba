/-! PURE: a row as a round; judge, worth -/
theorem isHour_yes : ∀ t, t < 12 → fX4_isHour (nI t) = some 1 := by decide
theorem isHour_ok (x : Int32) : (fX4_isHour x = some 1 ∧ fX5_isHour x = some 1 ∧ okH x) ∨ (fX4_isHour x = some 0 ∧ fX5_isHour x = some 0 ∧ (okH x ↔ x = -9)) := by
  rcases isHour_cases x with ⟨g1, g2⟩ | ⟨t, ht, rfl, g1, g2⟩
  · refine Or.inr ⟨g1, g2, fun z => ?_, fun z => Or.inl z⟩
    rcases z with z | ⟨t, ht, rfl⟩
    · exact z
    · rw [isHour_yes t ht] at g1
      exact absurd g1 (by decide)
  · exact Or.inl ⟨g1, g2, Or.inr ⟨t, ht, rfl⟩⟩
theorem refuse_ok {σ τ : pS} (h : RR σ τ) {r : Nat} (hr : r < 6) (k : Option (Int32 × pS)) (ha : ∀ d, d < td τ → okH (pI σ (20 + r) d)) : lX4_refuseRound_49 σ (nI r) k FU 0 = k := by
  have o2 := hD8 h
  refine whF (fun F (_ : Unit) v => lX4_refuseRound_49 σ (nI r) k F v) (n := td τ) (by omega) (fun _ => ()) _ (fun F => ?_) (fun F j hj => ?_)
  · show lX4_refuseRound_49 σ _ _ (F + 1) _ = _
    rw [lX4_refuseRound_49.eq_2, hV h, hD h, if_pos rfl, if_pos (nI_le (Nat.le_refl _) (by omega))]
  · show lX4_refuseRound_49 σ _ _ (F + 1) _ = _
    rw [lX4_refuseRound_49.eq_2, hV h, hD h, if_pos rfl, if_neg (nI_nge (by omega) (by omega)), pin_lit hr (by decide), pin_lit (show j < 60 by omega) (by decide), nI_clamp (by omega), nI_clamp (by omega)]
    simp only [if_true, nI_1]
    rcases isHour_ok (pI σ (20 + r) j) with ⟨g1, g2, g3⟩ | ⟨g1, g2, g3⟩
    · rw [g1, obind_some, if_neg i10]
    · rw [g1, obind_some, if_pos rfl, if_pos (g3.mp (ha j hj))]
theorem refuse_no {σ τ : pS} (h : RR σ τ) {r : Nat} (hr : r < 6) (k : Option (Int32 × pS)) (ha : ¬ ∀ d, d < td τ → okH (pI σ (20 + r) d)) : lX4_refuseRound_49 σ (nI r) k FU 0 = some (-3, xfind σ 3) := by
  have o2 := hD8 h
  refine whP (fun F (_ : Unit) v => lX4_refuseRound_49 σ (nI r) k F v) (n := td τ) (by omega) (fun j _ => ∀ d, d < j → okH (pI σ (20 + r) d)) (fun o => o = some (-3, xfind σ 3)) () (fun d hd => absurd hd (Nat.not_lt_zero d)) (fun F _ hI => absurd hI ha) (fun F _ j hj hI => ?_)
  have e : lX4_refuseRound_49 σ (nI r) k (F + 1) (nI j) = (fX4_isHour (pI σ (20 + r) j)).bind fun r7 => if r7 = 0 then (if pI σ (20 + r) j = -9 then lX4_refuseRound_49 σ (nI r) k F (nI (j + 1)) else some (-3, xfind σ 3)) else lX4_refuseRound_49 σ (nI r) k F (nI (j + 1)) := by
    rw [lX4_refuseRound_49.eq_2, hV h, hD h, if_pos rfl, if_neg (nI_nge (by omega) (by omega)), pin_lit hr (by decide), pin_lit (show j < 60 by omega) (by decide), nI_clamp (by omega), nI_clamp (by omega)]
    simp only [if_true, nI_1, xf3, pbind_some]
  have step : okH (pI σ (20 + r) j) → ∀ d, d < j + 1 → okH (pI σ (20 + r) d) := fun hj' d hd => by
    by_cases q : d = j
    · rw [q]; exact hj'
    · exact hI d (by omega)
  rcases isHour_ok (pI σ (20 + r) j) with ⟨g1, g2, g3⟩ | ⟨g1, g2, g3⟩
  · left
    refine ⟨(), ?_, step g3⟩
    show lX4_refuseRound_49 σ _ _ (F + 1) _ = _
    rw [e, g1, obind_some, if_neg i10]
  · by_cases q : pI σ (20 + r) j = -9
    · left
      refine ⟨(), ?_, step (g3.mpr q)⟩
      show lX4_refuseRound_49 σ _ _ (F + 1) _ = _
      rw [e, g1, obind_some, if_pos rfl, if_pos q]
    · right
      show lX4_refuseRound_49 σ _ _ (F + 1) _ = _
      rw [e, g1, obind_some, if_pos rfl, if_neg q]
theorem need_all {τ : pS} (ho : Ro τ) {r : Nat} (hr : r < 6) (k : Int32 → Option (Int32 × pS)) : ∃ y, lX5_needRound_38 τ (nI r) k FU 1 0 = k y ∧ ((y = 1 ∧ ∀ d, d < td τ → okH (pI τ 3 (60 * r + d))) ∨ (y = 0 ∧ ¬ ∀ d, d < td τ → okH (pI τ 3 (60 * r + d)))) := by
  have o2 := ho.2.1
  refine whP (fun F (a : Int32) v => lX5_needRound_38 τ (nI r) k F a v) (n := td τ) (by omega) (fun j a => (a = 1 ∧ ∀ d, d < j → okH (pI τ 3 (60 * r + d))) ∨ (a = 0 ∧ ¬ ∀ d, d < td τ → okH (pI τ 3 (60 * r + d)))) (fun o => ∃ y, o = k y ∧ ((y = 1 ∧ ∀ d, d < td τ → okH (pI τ 3 (60 * r + d))) ∨ (y = 0 ∧ ¬ ∀ d, d < td τ → okH (pI τ 3 (60 * r + d))))) 1 (Or.inl ⟨rfl, fun d hd => absurd hd (Nat.not_lt_zero d)⟩) (fun F a hI => ?_) (fun F a j hj hI => Or.inl ?_)
  · refine ⟨a, ?_, hI⟩
    show lX5_needRound_38 τ _ _ (F + 1) _ _ = _
    rw [lX5_needRound_38.eq_2, ho.2.2.2.1, if_pos (nI_le (Nat.le_refl _) (by omega))]
  · have e : lX5_needRound_38 τ (nI r) k (F + 1) a (nI j) = if a = 0 then lX5_needRound_38 τ (nI r) k F 0 (nI (j + 1)) else (fX5_isHour (pI τ 3 (60 * r + j))).bind fun r5 => if r5 = 0 then (if pI τ 3 (60 * r + j) = -9 then lX5_needRound_38 τ (nI r) k F 1 (nI (j + 1)) else lX5_needRound_38 τ (nI r) k F 0 (nI (j + 1))) else lX5_needRound_38 τ (nI r) k F 1 (nI (j + 1)) := by
      rw [lX5_needRound_38.eq_2, ho.2.2.2.1, if_neg (nI_nge (by omega) (by omega)), rowAt_eq hr (show j < 60 by omega)]
      simp only [plet_eq, obind_some, nI_1]
    have step : ∀ j, (∀ d, d < j → okH (pI τ 3 (60 * r + d))) → okH (pI τ 3 (60 * r + j)) → ∀ d, d < j + 1 → okH (pI τ 3 (60 * r + d)) := fun j hI hj' d hd => by
      by_cases q : d = j
      · rw [q]; exact hj'
      · exact hI d (by omega)
    rcases hI with ⟨rfl, hI⟩ | ⟨rfl, hI⟩
    · rcases isHour_ok (pI τ 3 (60 * r + j)) with ⟨g1, g2, g3⟩ | ⟨g1, g2, g3⟩
      · refine ⟨1, ?_, Or.inl ⟨rfl, step j hI g3⟩⟩
        show lX5_needRound_38 τ _ _ (F + 1) _ _ = _
        rw [e, if_neg i10, g2, obind_some, if_neg i10]
      · by_cases q : pI τ 3 (60 * r + j) = -9
        · refine ⟨1, ?_, Or.inl ⟨rfl, step j hI (g3.mpr q)⟩⟩
          show lX5_needRound_38 τ _ _ (F + 1) _ _ = _
          rw [e, if_neg i10, g2, obind_some, if_pos rfl, if_pos q]
        · refine ⟨0, ?_, Or.inr ⟨rfl, fun z => q (g3.mp (z j hj))⟩⟩
          show lX5_needRound_38 τ _ _ (F + 1) _ _ = _
          rw [e, if_neg i10, g2, obind_some, if_pos rfl, if_neg q]
    · refine ⟨0, ?_, Or.inr ⟨rfl, hI⟩⟩
      show lX5_needRound_38 τ _ _ (F + 1) _ _ = _
      rw [e, if_pos rfl]
theorem need_copy {τ : pS} (ho : Ro τ) {r : Nat} (hr : r < 6) (k : pS → Option (Int32 × pS)) : ∃ τ', lX5_needRound_97 (nI r) k FU 0 τ = k τ' ∧ (∀ d, d < td τ → pI τ' 11 d = pI τ 3 (60 * r + d)) ∧ only τ τ' 11 := by
  have o2 := ho.2.1
  obtain ⟨τ', h1, h2, h3⟩ := whS (fun F s v => lX5_needRound_97 (nI r) k F v s) (n := td τ) (by omega) (fun j s => (∀ d, d < j → pI s 11 d = pI τ 3 (60 * r + d)) ∧ only τ s 11) k τ ⟨fun d hd => absurd hd (Nat.not_lt_zero d), only_rf⟩ (fun F s hs => by
      show lX5_needRound_97 _ _ (F + 1) _ s = _
      rw [lX5_needRound_97.eq_2, hs.2.1 0 12 (by decide), ho.2.2.2.1, if_pos (nI_le (Nat.le_refl _) (by omega))]) (fun F s j hj hs => ⟨sI s 11 j (pI τ 3 (60 * r + j)), by
      show lX5_needRound_97 _ _ (F + 1) _ s = _
      rw [lX5_needRound_97.eq_2, hs.2.1 0 12 (by decide), ho.2.2.2.1, if_neg (nI_nge (by omega) (by omega)), rowAt_eq hr (show j < 60 by omega), obind_some, pin_lit (show j < 8 by omega) (by decide), nI_clamp (by omega), hs.2.1 3 _ (by decide)]
      simp only [if_true, plet_eq, nI_1], fun d hd => by
        by_cases q : d = j
        · rw [q, pI_sI_eq]
        · rw [pI_sI_nj q]; exact hs.1 d (by omega), only_tr hs.2 only_s⟩)
  exact ⟨τ', h1, h2, h3⟩
theorem round_cases {σ τ : pS} (h : RR σ τ) {r : Nat} (hr : r < 6) : (∃ f, f < 6 ∧ fX4_refuseRound σ (nI r) = some (-3, xfind σ f) ∧ fX5_needRound τ (nI r) = some (-3, mfind τ f)) ∨ ∃ τ1, fX4_refuseRound σ (nI r) = some (0, σ) ∧ fX5_needRound τ (nI r) = some (0, τ1) ∧ RR σ τ1 ∧ ∀ d, d < td τ1 → pI σ (20 + r) d = pI τ1 11 d ∧ okH (pI τ1 11 d) := by
  have ho := h.2.2.2.2.1
  have o2 := hD8 h
  have hp : pin (nI r) 6 = true := pin_lit hr (by decide)
  have hc : (nI r).toNatClampNeg = r := nI_clamp (by omega)
  have ir : fX4_isRow (nI r) = some 1 := by
    rcases (show r = 0 ∨ r = 1 ∨ r = 2 ∨ r = 3 ∨ r = 4 ∨ r = 5 by omega) with rfl | rfl | rfl | rfl | rfl | rfl <;> rfl
  unfold fX4_refuseRound fX5_needRound
  rw [ir, hp, hc, hV h, hD h, ho.2.2.2.1]
  simp only [obind_some, i10, if_false, if_true]
  rcases h.2.1 r hr with ⟨e1, e2⟩ | ⟨s, hs, e1, e2, e3⟩
  · rw [e1, e2]
    left
    refine ⟨1, by decide, ?_, ?_⟩
    · simp only [if_true, xf1, pbind_some]
    · simp only [nI_m1_nge, if_false, mf1, pbind_some]
  · rw [e1, e2]
    simp only [nI_ne_m1 (show s < 2 ^ 31 by omega), if_false, nI_ge0 (show s < 2 ^ 31 by omega), if_true, nI_eq (show s < 2 ^ 31 by omega) (show td τ < 2 ^ 31 by omega)]
    by_cases q : s = td τ
    · subst q
      simp only [if_true]
      obtain ⟨y, ey, hy⟩ := need_all ho hr (fun (y9 : Int32) => if y9 = 0 then pbind (fX5_meets τ (3 : Int32)) fun r15 σ16 => some (r15, σ16) else lX5_needRound_97 (nI r) (fun (σ13 : pS) => some ((0 : Int32), σ13)) FU (0 : Int32) τ)
      rw [ey]
      rcases hy with ⟨rfl, ha⟩ | ⟨rfl, ha⟩
      · right
        obtain ⟨τ1, g1, g2, g3⟩ := need_copy ho hr (fun σ13 => some ((0 : Int32), σ13))
        have ed : td τ1 = td τ := by unfold td; rw [g3.1 0 12 (by decide)]
        refine ⟨τ1, refuse_ok h hr _ (fun d hd => by rw [e3 d hd]; exact ha d hd), ?_, RR_FM h (FM_only g3 (by omega)), fun d hd => ?_⟩
        · rw [if_neg i10, g1]
        · rw [ed] at hd
          rw [g2 d hd, e3 d hd]
          exact ⟨rfl, ha d hd⟩
      · left
        refine ⟨3, by decide, refuse_no h hr _ (fun z => ha (fun d hd => by rw [← e3 d hd]; exact z d hd)), ?_⟩
        rw [if_pos rfl, mf3, pbind_some]
    · left
      refine ⟨5, by decide, ?_, ?_⟩
      · simp only [q, if_false, xf5, pbind_some]
      · simp only [q, if_false, mf5, pbind_some]
/-! what is amiss -/
def anyB (f : Nat → Bool) : Nat → Bool
  | 0 => false
  | n + 1 => anyB f n || f n
theorem anyB_yes {f : Nat → Bool} {j n : Nat} (h : j < n) (hf : f j = true) : anyB f n = true := by
  induction n with
  | zero => omega
  | succ n ih =>
    unfold anyB
    by_cases e : j = n
    · subst e; rw [hf, Bool.or_true]
    · rw [ih (by omega)]; rfl
theorem anyB_congr {f g : Nat → Bool} : ∀ n, (∀ i, i < n → f i = g i) → anyB f n = anyB g n
  | 0, _ => rfl
  | n + 1, h => by unfold anyB; rw [anyB_congr n (fun i hi => h i (by omega)), h n (by omega)]
def laysB (τ : pS) (d e : Nat) : Bool := decide (pI τ 11 e = pI τ 11 d) && decide (fN τ e = fN τ d)
def laidB (τ : pS) (d e : Nat) : Bool := decide (pI τ 11 e = pI τ 11 d) && decide (tN τ e = tN τ d)
def hrN (τ : pS) (d : Nat) : Nat := (pI τ 11 d).toNatClampNeg
def amN (τ : pS) (d : Nat) : Nat := if pI τ 11 d = -9 then 0 else if payB τ (outB τ (hrN τ d)) d (hrN τ d) = false then 1 else if anyB (laysB τ d) d then 2 else if anyB (laidB τ d) d then 3 else 0
theorem hrN_ok {τ : pS} {d : Nat} (h : okH (pI τ 11 d)) (h9 : ¬ pI τ 11 d = -9) : pI τ 11 d = nI (hrN τ d) ∧ hrN τ d < 12 := by
  rcases h with h | ⟨t, ht, e⟩
  · exact absurd h h9
  · unfold hrN
    rw [e, nI_clamp (by omega)]
    exact ⟨rfl, ht⟩
theorem amN_lt (τ : pS) (d : Nat) : amN τ d < 4 := by
  unfold amN
  repeat' split
  all_goals decide
theorem xamiss_eq {σ τ : pS} (h : RR σ τ) {r : Nat} (hr : r < 6) (hrow : ∀ d, d < td τ → pI σ (20 + r) d = pI τ 11 d ∧ okH (pI τ 11 d)) {d : Nat} (hd : d < td τ) : fX4_whatIsAmiss σ (20 + r) (nI d) = some (nI (amN τ d)) := by
  have o2 := hD8 h
  have o1 := hN6 h
  obtain ⟨r1, r2⟩ := row_isA r hr
  unfold fX4_whatIsAmiss amN
  rw [r1, r2, pin_lit (show d < 60 by omega) (by decide), nI_clamp (by omega), (hrow d hd).1]
  simp only [if_true, plet_eq]
  by_cases q : pI τ 11 d = -9
  · rw [if_pos q, if_pos q]; rfl
  obtain ⟨t1, t2⟩ := hrN_ok (hrow d hd).2 q
  rw [if_neg q, if_neg q, hV h, if_pos rfl, t1, peopleOut_eq h t2, obind_some, xpay_eq h hd t2, obind_some]
  simp only [b2i_0]
  by_cases q1 : payB τ (outB τ (hrN τ d)) d (hrN τ d) = false
  · rw [if_pos q1, if_pos q1]; rfl
  rw [if_neg q1, if_neg q1]
  refine whP (fun F (a : Int32) v => lX4_whatIsAmiss_40 σ (20 + r) (nI d) (nI (hrN τ d)) _ F a v) (n := d) (by omega) (fun j a => anyB (laysB τ d) j = false ∧ a = b2i (anyB (laidB τ d) j)) (fun o => o = some (nI (if anyB (laysB τ d) d = true then 2 else if anyB (laidB τ d) d = true then 3 else 0))) 0 ⟨rfl, rfl⟩ (fun F a hI => ?_) (fun F a j hj hI => ?_)
  · show lX4_whatIsAmiss_40 σ _ _ _ _ (F + 1) _ _ = _
    rw [lX4_whatIsAmiss_40.eq_2, if_pos (nI_le (Nat.le_refl _) (by omega)), hI.1, hI.2]
    simp only [b2i_0]
    cases anyB (laidB τ d) d <;> rfl
  · have hj' : j < td τ := by omega
    obtain ⟨⟨a1, a2⟩, ⟨b1, b2⟩, -⟩ := dN_ok h.2.2.2.2.1 hd
    obtain ⟨⟨c1, c2⟩, ⟨d1, d2⟩, -⟩ := dN_ok h.2.2.2.2.1 hj'
    have e : ∀ k a, lX4_whatIsAmiss_40 σ (20 + r) (nI d) (nI (hrN τ d)) k (F + 1) a (nI j) = if pI τ 11 j = pI τ 11 d then (if fN τ j = fN τ d then some 2 else if tN τ j = tN τ d then lX4_whatIsAmiss_40 σ (20 + r) (nI d) (nI (hrN τ d)) k F 1 (nI (j + 1)) else lX4_whatIsAmiss_40 σ (20 + r) (nI d) (nI (hrN τ d)) k F a (nI (j + 1))) else lX4_whatIsAmiss_40 σ (20 + r) (nI d) (nI (hrN τ d)) k F a (nI (j + 1)) := by
      intro k a
      rw [lX4_whatIsAmiss_40.eq_2, if_neg (nI_nge (by omega) (by omega)), r1, r2, pin_lit (show j < 60 by omega) (by decide), nI_clamp (show j < 2 ^ 31 by omega), nI_clamp (show d < 2 ^ 31 by omega), (hrow j hj').1, hV h, pin_lit (show j < 8 by omega) (by decide), pin_lit (show d < 8 by omega) (by decide), hF0 h hj', hF0 h hd, hF1 h hj', hF1 h hd, ← t1]
      simp only [if_true, nI_1, nI_eq (show fN τ j < 2 ^ 31 by omega) (show fN τ d < 2 ^ 31 by omega), nI_eq (show tN τ j < 2 ^ 31 by omega) (show tN τ d < 2 ^ 31 by omega)]
    have s1 : anyB (laysB τ d) (j + 1) = (anyB (laysB τ d) j || laysB τ d j) := rfl
    have s2 : anyB (laidB τ d) (j + 1) = (anyB (laidB τ d) j || laidB τ d j) := rfl
    by_cases z1 : pI τ 11 j = pI τ 11 d
    · by_cases z2 : fN τ j = fN τ d
      · right
        show lX4_whatIsAmiss_40 σ _ _ _ _ (F + 1) _ _ = _
        rw [e, if_pos z1, if_pos z2, anyB_yes hj (by unfold laysB; rw [decide_eq_true z1, decide_eq_true z2]; rfl), if_pos rfl]
        rfl
      · left
        by_cases z3 : tN τ j = tN τ d
        · refine ⟨1, ?_, by rw [s1, hI.1]; unfold laysB; simp [z2], by rw [s2]; unfold laidB; simp [z1, z3, b2i]⟩
          show lX4_whatIsAmiss_40 σ _ _ _ _ (F + 1) _ _ = _
          rw [e, if_pos z1, if_neg z2, if_pos z3]
        · refine ⟨a, ?_, by rw [s1, hI.1]; unfold laysB; simp [z2], by rw [s2, hI.2]; unfold laidB; simp [z3]⟩
          show lX4_whatIsAmiss_40 σ _ _ _ _ (F + 1) _ _ = _
          rw [e, if_pos z1, if_neg z2, if_neg z3]
    · left
      refine ⟨a, ?_, by rw [s1, hI.1]; unfold laysB; simp [z1], by rw [s2, hI.2]; unfold laidB; simp [z1]⟩
      show lX4_whatIsAmiss_40 σ _ _ _ _ (F + 1) _ _ = _
      rw [e, if_neg z1]
theorem first_cases (f : Nat → Nat) : ∀ n, (∀ d, d < n → f d = 0) ∨ ∃ d, d < n ∧ ¬ f d = 0 ∧ ∀ e, e < d → f e = 0
  | 0 => Or.inl (fun d hd => absurd hd (Nat.not_lt_zero d))
  | n + 1 => by
    rcases first_cases f n with h | ⟨d, h1, h2, h3⟩
    · by_cases q : f n = 0
      · refine Or.inl (fun d hd => ?_)
        by_cases e : d = n
        · rw [e]; exact q
        · exact h d (by omega)
      · exact Or.inr ⟨n, by omega, q, h⟩
    · exact Or.inr ⟨d, by omega, h2, h3⟩
theorem nI_am {τ : pS} {d : Nat} : (nI (amN τ d) = 0) = (amN τ d = 0) := nI_lit (by have := amN_lt τ d; omega) (by decide) rfl
theorem xfirst_none {σ τ : pS} (h : RR σ τ) {r : Nat} (hr : r < 6) (hrow : ∀ d, d < td τ → pI σ (20 + r) d = pI τ 11 d ∧ okH (pI τ 11 d)) (ha : ∀ d, d < td τ → amN τ d = 0) : fX4_firstAmiss σ (20 + r) = some (-9) := by
  have o2 := hD8 h
  unfold fX4_firstAmiss
  refine whF (fun F (_ : Unit) v => lX4_firstAmiss_2 σ (20 + r) (some (-9)) F v) (n := td τ) (by omega) (fun _ => ()) _ (fun F => ?_) (fun F j hj => ?_)
  · show lX4_firstAmiss_2 σ _ _ (F + 1) _ = _
    rw [lX4_firstAmiss_2.eq_2, hV h, hD h, if_pos rfl, if_pos (nI_le (Nat.le_refl _) (by omega))]
  · show lX4_firstAmiss_2 σ _ _ (F + 1) _ = _
    rw [lX4_firstAmiss_2.eq_2, hV h, hD h, if_pos rfl, if_neg (nI_nge (by omega) (by omega)), xamiss_eq h hr hrow hj, obind_some]
    simp only [nI_am]
    rw [if_pos (ha j hj), nI_1]
theorem xfirst_some {σ τ : pS} (h : RR σ τ) {r : Nat} (hr : r < 6) (hrow : ∀ d, d < td τ → pI σ (20 + r) d = pI τ 11 d ∧ okH (pI τ 11 d)) {d : Nat} (hd : d < td τ) (h1 : ¬ amN τ d = 0) (ha : ∀ e, e < d → amN τ e = 0) : fX4_firstAmiss σ (20 + r) = some (nI d) := by
  have o2 := hD8 h
  unfold fX4_firstAmiss
  refine whF (fun F (_ : Unit) v => lX4_firstAmiss_2 σ (20 + r) (some (-9)) F v) (n := d) (by omega) (fun _ => ()) _ (fun F => ?_) (fun F j hj => ?_)
  · show lX4_firstAmiss_2 σ _ _ (F + 1) _ = _
    rw [lX4_firstAmiss_2.eq_2, hV h, hD h, if_pos rfl, if_neg (nI_nge (by omega) (by omega)), xamiss_eq h hr hrow hd, obind_some]
    simp only [nI_am]
    rw [if_neg h1]
  · show lX4_firstAmiss_2 σ _ _ (F + 1) _ = _
    rw [lX4_firstAmiss_2.eq_2, hV h, hD h, if_pos rfl, if_neg (nI_nge (by omega) (by omega)), xamiss_eq h hr hrow (by omega), obind_some]
    simp only [nI_am]
    rw [if_pos (ha j hj), nI_1]
