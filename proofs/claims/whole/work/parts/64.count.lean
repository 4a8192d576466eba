/-! PURE: count -/
theorem nI_lit {w n : Nat} (h : w < 2 ^ 31) (hn : n < 2 ^ 31) {c : Int32} (hc : c = nI n) : (nI w = c) = (w = n) := by
  rw [hc]
  exact propext (nI_eq h hn)
theorem mshared_eq {τ : pS} (h : Ro τ) {p : Nat} (hp : p < tn τ) : fX5_isShared τ (nI p) = some (b2i (decide (kN τ p = 3) || decide (kN τ p = 4))) := by
  have k2 := (kN_ok h hp).2.1
  unfold fX5_isShared
  rw [kind_eq h hp]
  simp only [obind_some]
  rcases six k2 with e | e | e | e | e | e <;> rw [e] <;> rfl
def cA (τ : pS) (w p : Nat) : Bool := (decide (w = 3) && (decide (kN τ p = 1) || decide (kN τ p = 5))) || (decide (w = 4) && (decide (kN τ p = 3) || decide (kN τ p = 4)))
theorem mcount1 {τ : pS} (ho : Ro τ) {w : Nat} (hw : w < 8) (k : Int32 → Option Int32) : lX5_counted_4 τ (nI w) k FU 0 0 = k (nI (cnt (cA τ w) (tn τ))) := by
  have o1 := ho.1
  refine whF (fun F (a : Int32) v => lX5_counted_4 τ (nI w) k F a v) (n := tn τ) (by omega) (fun j => nI (cnt (cA τ w) j)) _ (fun F => ?_) (fun F j hj => ?_)
  · show lX5_counted_4 τ _ _ (F + 1) _ _ = _
    rw [lX5_counted_4.eq_2, ho.2.2.1, if_pos (nI_le (Nat.le_refl _) (by omega))]
  · show lX5_counted_4 τ _ _ (F + 1) _ _ = _
    have k2 := (kN_ok ho hj).2.1
    rw [lX5_counted_4.eq_2, ho.2.2.1, if_neg (nI_nge (by omega) (by omega)), kind_eq ho hj, mshared_eq ho hj]
    simp only [obind_some, plet_eq]
    rw [nI_1 j, ← cnt_b0]
    have key : ∀ (j1 : Int32 → Option Int32), (if nI w = (3 : Int32) then (if nI (kN τ j) = (1 : Int32) then j1 1 else if nI (kN τ j) = (5 : Int32) then j1 1 else (if nI w = (4 : Int32) then (if b2i (decide (kN τ j = 3) || decide (kN τ j = 4)) = 0 then j1 0 else j1 1) else j1 0)) else (if nI w = (4 : Int32) then (if b2i (decide (kN τ j = 3) || decide (kN τ j = 4)) = 0 then j1 0 else j1 1) else j1 0)) = j1 (b2i (cA τ w j)) := by
      intro j1
      unfold cA
      rcases six k2 with e | e | e | e | e | e <;> rw [e] <;> rcases eight hw with f | f | f | f | f | f | f | f <;> subst f <;> rfl
    exact key (fun y => lX5_counted_4 τ (nI w) k F (nI (cnt (cA τ w) j) + y) (nI (j + 1)))
theorem mcount2 {τ : pS} {w : Nat} (hw : w < 8) (c : Nat) (k : Int32 → Option Int32) {N : Nat} (hN : N = 3) : lX5_counted_64 τ (nI w) k FU (nI c) 0 = k (nI (c + cnt (fun i => decide (w = 5) && decide (¬ pI τ 16 i = 0)) N)) := by
  have n3 : (3 : Int32) = nI N := by rw [hN]; rfl
  refine whF (fun F (a : Int32) v => lX5_counted_64 τ (nI w) k F a v) (n := N) (by omega) (fun j => nI (c + cnt (fun i => decide (w = 5) && decide (¬ pI τ 16 i = 0)) j)) _ (fun F => ?_) (fun F j hj => ?_)
  · show lX5_counted_64 τ _ _ (F + 1) _ _ = _
    rw [lX5_counted_64.eq_2, n3, if_pos (nI_le (Nat.le_refl _) (by omega))]
  · show lX5_counted_64 τ _ _ (F + 1) _ _ = _
    rw [lX5_counted_64.eq_2, n3, if_neg (nI_nge (by omega) (by omega)), pin_lit (show j < 3 by omega) (by decide), nI_clamp (by omega)]
    simp only [plet_eq, if_true, nI_lit (show w < 2 ^ 31 by omega) (show 5 < 2 ^ 31 by decide) (show (5 : Int32) = nI 5 from rfl)]
    rw [nI_1 j, ← cnt_b]
    by_cases q : w = 5
    · by_cases q2 : pI τ 16 j = 0
      · simp [q, q2, b2i]
      · simp [q, q2, b2i]
    · simp [q, b2i]
theorem mcount3 {τ : pS} {w : Nat} (hw : w < 8) (c : Nat) (k : Int32 → Option Int32) {N : Nat} (hN : N = 6) : lX5_counted_99 τ (nI w) k FU (nI c) 0 = k (nI (c + cnt (fun i => decide (w = 6) && decide (¬ pI τ 2 i < 0)) N)) := by
  have n3 : (6 : Int32) = nI N := by rw [hN]; rfl
  have n6 : (nI w = nI N) = (w = N) := propext (nI_eq (by omega) (by omega))
  refine whF (fun F (a : Int32) v => lX5_counted_99 τ (nI w) k F a v) (n := N) (by omega) (fun j => nI (c + cnt (fun i => decide (w = 6) && decide (¬ pI τ 2 i < 0)) j)) _ (fun F => ?_) (fun F j hj => ?_)
  · show lX5_counted_99 τ _ _ (F + 1) _ _ = _
    rw [lX5_counted_99.eq_2, n3, if_pos (nI_le (Nat.le_refl _) (by omega))]
  · show lX5_counted_99 τ _ _ (F + 1) _ _ = _
    rw [lX5_counted_99.eq_2, n3, if_neg (nI_nge (by omega) (by omega)), pin_lit (show j < 6 by omega) (by decide), nI_clamp (by omega)]
    simp only [plet_eq, if_true, n6]
    rw [nI_1 j, ← cnt_b]
    by_cases q : w = 6
    · by_cases q2 : pI τ 2 j < 0
      · simp [q, q2, b2i, hN]
      · simp [q, q2, b2i, hN]
    · simp [q, b2i, hN]
theorem mcount4 {τ : pS} {w : Nat} (hw : w < 8) (c : Nat) (k : Int32 → Option Int32) {N : Nat} (hN : N = 4) : lX5_counted_136 τ (nI w) k FU (nI c) 0 = k (nI (c + cnt (fun i => decide (w = 7) && decide (¬ pI τ 5 i < 0)) N)) := by
  have n3 : (4 : Int32) = nI N := by rw [hN]; rfl
  refine whF (fun F (a : Int32) v => lX5_counted_136 τ (nI w) k F a v) (n := N) (by omega) (fun j => nI (c + cnt (fun i => decide (w = 7) && decide (¬ pI τ 5 i < 0)) j)) _ (fun F => ?_) (fun F j hj => ?_)
  · show lX5_counted_136 τ _ _ (F + 1) _ _ = _
    rw [lX5_counted_136.eq_2, n3, if_pos (nI_le (Nat.le_refl _) (by omega))]
  · show lX5_counted_136 τ _ _ (F + 1) _ _ = _
    rw [lX5_counted_136.eq_2, n3, if_neg (nI_nge (by omega) (by omega)), pin_lit (show j < 4 by omega) (by decide), nI_clamp (by omega)]
    simp only [plet_eq, if_true, nI_lit (show w < 2 ^ 31 by omega) (show 7 < 2 ^ 31 by decide) (show (7 : Int32) = nI 7 from rfl)]
    rw [nI_1 j, ← cnt_b]
    by_cases q : w = 7
    · by_cases q2 : pI τ 5 j < 0
      · simp [q, q2, b2i]
      · simp [q, q2, b2i]
    · simp [q, b2i]
theorem counted_eq {τ : pS} (ho : Ro τ) {w : Nat} (hw : w < 8) {N3 N4 N6 : Nat} (h3 : N3 = 3) (h4 : N4 = 4) (h6 : N6 = 6) : fX5_counted τ (nI w) = some (if w = 0 then nI (tn τ) else if w = 1 then nI (td τ) else if w = 2 then nI (cnt (pdM τ) (td τ)) else nI (cnt (cA τ w) (tn τ) + cnt (fun i => decide (w = 5) && decide (¬ pI τ 16 i = 0)) N3 + cnt (fun i => decide (w = 6) && decide (¬ pI τ 2 i < 0)) N6 + cnt (fun i => decide (w = 7) && decide (¬ pI τ 5 i < 0)) N4)) := by
  unfold fX5_counted
  rw [mcount1 ho hw, mcount2 hw _ _ h3, mcount3 hw _ _ h6, mcount4 hw _ _ h4, mpaid_eq τ ho, ho.2.2.1, ho.2.2.2.1]
  simp only [obind_some, nI_lit (show w < 2 ^ 31 by omega) (show 0 < 2 ^ 31 by decide) (show (0 : Int32) = nI 0 from rfl), nI_lit (show w < 2 ^ 31 by omega) (show 1 < 2 ^ 31 by decide) (show (1 : Int32) = nI 1 from rfl), nI_lit (show w < 2 ^ 31 by omega) (show 2 < 2 ^ 31 by decide) (show (2 : Int32) = nI 2 from rfl)]
  rcases eight hw with f | f | f | f | f | f | f | f <;> subst f <;> rfl
theorem xkept_eq {σ : pS} {N : Nat} (hN : N = 3) : fX0_howManyKept σ = some (nI (cnt (fun i => decide (¬ pI σ 11 i = 0)) N)) := by
  have n3 : Int32.ofNat 3 = nI N := by rw [hN]; rfl
  unfold fX0_howManyKept
  rw [n3, plet_eq]
  refine whF (fun F (a : Int32) v => lX0_howManyKept_13 σ (nI N) (fun y3 => some y3) F a v) (n := N) (by omega) (fun j => nI (cnt (fun i => decide (¬ pI σ 11 i = 0)) j)) _ (fun F => ?_) (fun F j hj => ?_)
  · show lX0_howManyKept_13 σ _ _ (F + 1) _ _ = _
    rw [lX0_howManyKept_13.eq_2, if_pos (nI_le (Nat.le_refl _) (by omega))]
  · show lX0_howManyKept_13 σ _ _ (F + 1) _ _ = _
    rw [lX0_howManyKept_13.eq_2, if_neg (nI_nge (by omega) (by omega)), pin_lit (show j < 3 by omega) (by decide), nI_clamp (by omega)]
    simp only [plet_eq, if_true]
    rw [nI_1 j, ← cnt_b0]
    by_cases q2 : pI σ 11 j = 0
    · simp [q2, b2i]
    · simp [q2, b2i]
theorem xthere_eq {σ : pS} {e N : Nat} (hA : isA wX 0 e = true) (hn : alen wX e = N) (hN : N < 100) : fX4_howManyThere σ e = some (nI (cnt (fun i => decide (¬ pI σ e i = -1)) N)) := by
  unfold fX4_howManyThere
  rw [hA, hn, if_pos rfl, plet_eq]
  refine whF (fun F (a : Int32) v => lX4_howManyThere_10 σ e (nI N) (fun y3 => some y3) F a v) (n := N) (by omega) (fun j => nI (cnt (fun i => decide (¬ pI σ e i = -1)) j)) _ (fun F => ?_) (fun F j hj => ?_)
  · show lX4_howManyThere_10 σ _ _ _ (F + 1) _ _ = _
    rw [lX4_howManyThere_10.eq_2, if_pos (nI_le (Nat.le_refl _) (by omega))]
  · show lX4_howManyThere_10 σ _ _ _ (F + 1) _ _ = _
    rw [lX4_howManyThere_10.eq_2, if_neg (nI_nge (by omega) (by omega)), hA, hn, pin_lit (show j < N by omega) (by omega), nI_clamp (by omega)]
    simp only [plet_eq, if_true]
    rw [nI_1 j, ← cnt_b0]
    by_cases q2 : pI σ e j = -1
    · simp [q2, b2i]
    · simp [q2, b2i]
theorem xm_kept {σ τ : pS} (h : RR σ τ) : cnt (fun i => decide (¬ pI σ 11 i = 0)) 3 = cnt (fun i => decide (¬ pI τ 16 i = 0)) 3 := cnt_congr 3 (fun i hi => by
  rcases h.2.2.2.2.2.1 i hi with ⟨e1, e2⟩ | ⟨e1, e2, -⟩
  · rw [e1, e2]
  · rw [e1, e2])
theorem xm_rows {σ τ : pS} (h : RR σ τ) : cnt (fun i => decide (¬ pI σ 5 i = -1)) 6 = cnt (fun i => decide (¬ pI τ 2 i < 0)) 6 := cnt_congr 6 (fun i hi => by
  rcases h.2.1 i hi with ⟨e1, e2⟩ | ⟨s, hs, e1, e2, -⟩
  · rw [e1, e2]; rfl
  · rw [e1, e2, decide_eq_true (nI_ne_m1 (by omega)), decide_eq_true (nI_pos (by omega))])
theorem xm_texts {σ τ : pS} (h : RR σ τ) : cnt (fun i => decide (¬ pI σ 7 i = -1)) 4 = cnt (fun i => decide (¬ pI τ 5 i < 0)) 4 := cnt_congr 4 (fun i hi => by
  rcases h.2.2.1 i hi with ⟨e1, e2⟩ | ⟨s, hs, e1, e2, -⟩
  · rw [e1, e2]; rfl
  · rw [e1, e2, decide_eq_true (nI_ne_m1 (by omega)), decide_eq_true (nI_pos (by omega))])
theorem cnt_w {f : Nat → Bool} {n : Nat} : cnt (fun i => decide (1 = 2) && f i) n = 0 := cnt_false n (fun _ _ => rfl)
theorem cA_3 (τ : pS) (p : Nat) : cA τ 3 p = ofK τ p 1 := by
  unfold cA ofK
  simp
theorem cA_4 (τ : pS) (p : Nat) : cA τ 4 p = ofK τ p 3 := by
  unfold cA ofK
  simp
theorem cnt_and {b : Bool} {f : Nat → Bool} {n : Nat} (h : b = false) : cnt (fun i => b && f i) n = 0 := cnt_false n (fun _ _ => by rw [h]; rfl)
theorem count_both {σ τ : pS} (h : RR σ τ) {w : Nat} (hw : w < 8) : ∃ r, fX4_count σ (nI w) = some r ∧ fX5_counted τ (nI w) = some r := by
  have ho := h.2.2.2.2.1
  have hd8 := hD8 h
  obtain ⟨N3, h3⟩ : ∃ N, N = 3 := ⟨3, rfl⟩
  obtain ⟨N4, h4⟩ : ∃ N, N = 4 := ⟨4, rfl⟩
  obtain ⟨N6, h6⟩ : ∃ N, N = 6 := ⟨6, rfl⟩
  refine ⟨_, ?_, counted_eq ho hw h3 h4 h6⟩
  unfold fX4_count
  rw [hV h, hPn h, hD h, xpaid_eq σ hd8, howManyOfKind_eq h (show 1 < 6 by decide) (show (1 : Int32) = nI 1 from rfl), howManyOfKind_eq h (show 3 < 6 by decide) (show (3 : Int32) = nI 3 from rfl), xkept_eq h3, xthere_eq (e := 5) (N := 6) rfl rfl (by decide), xthere_eq (e := 7) (N := 4) rfl rfl (by decide)]
  have z1 : ∀ v, v < 8 → v ≠ 3 → v ≠ 4 → cnt (cA τ v) (tn τ) = 0 := fun v hv q1 q2 => cnt_false _ (fun i _ => by unfold cA; simp [q1, q2])
  rcases eight hw with f | f | f | f | f | f | f | f <;> subst f
  · rfl
  · rfl
  · show some (nI (cnt (pdX σ) (td τ))) = some (nI (cnt (pdM τ) (td τ)))
    rw [pd_like h]
  · show some (nI (cnt (fun p => ofK τ p 1) (tn τ))) = some (nI (cnt (cA τ 3) (tn τ) + _ + _ + _))
    rw [cnt_and (b := decide (3 = 5)) rfl, cnt_and (b := decide (3 = 6)) rfl, cnt_and (b := decide (3 = 7)) rfl]
    exact congrArg (fun c => some (nI c)) (cnt_congr _ (fun p _ => (cA_3 τ p).symm))
  · show some (nI (cnt (fun p => ofK τ p 3) (tn τ))) = some (nI (cnt (cA τ 4) (tn τ) + _ + _ + _))
    rw [cnt_and (b := decide (4 = 5)) rfl, cnt_and (b := decide (4 = 6)) rfl, cnt_and (b := decide (4 = 7)) rfl]
    exact congrArg (fun c => some (nI c)) (cnt_congr _ (fun p _ => (cA_4 τ p).symm))
  · show some (nI (cnt (fun i => decide (¬ pI σ 11 i = 0)) N3)) = some (nI (cnt (cA τ 5) (tn τ) + _ + _ + _))
    rw [z1 5 (by decide) (by decide) (by decide), cnt_and (b := decide (5 = 6)) rfl, cnt_and (b := decide (5 = 7)) rfl, h3, xm_kept h]
    exact congrArg (fun c => some (nI c)) ((Nat.zero_add _).symm.trans rfl)
  · show some (nI (cnt (fun i => decide (¬ pI σ 5 i = -1)) 6)) = some (nI (cnt (cA τ 6) (tn τ) + _ + _ + _))
    rw [z1 6 (by decide) (by decide) (by decide), cnt_and (b := decide (6 = 5)) rfl, cnt_and (b := decide (6 = 7)) rfl, h6, xm_rows h]
    exact congrArg (fun c => some (nI c)) ((Nat.zero_add _).symm.trans rfl)
  · show some (nI (cnt (fun i => decide (¬ pI σ 7 i = -1)) 4)) = some (nI (cnt (cA τ 7) (tn τ) + _ + _ + _))
    rw [z1 7 (by decide) (by decide) (by decide), cnt_and (b := decide (7 = 5)) rfl, cnt_and (b := decide (7 = 6)) rfl, h4, xm_texts h]
    exact congrArg (fun c => some (nI c)) ((Nat.zero_add _).symm.trans rfl)
theorem xcount_bad {σ : pS} {a : Int32} (h : a < 0 ∨ (7 : Int32) < a) : fX4_count σ a = some (-1) := by
  have ne : ∀ c : Int32, 0 ≤ c → c ≤ 7 → ¬ a = c := fun c h0 h7 e => by
    rw [e, Int32.lt_iff_toInt_lt, Int32.lt_iff_toInt_lt] at h
    rw [Int32.le_iff_toInt_le] at h0 h7
    omega
  unfold fX4_count
  rw [if_neg (ne 0 (by decide) (by decide)), if_neg (ne 1 (by decide) (by decide)), if_neg (ne 2 (by decide) (by decide)), if_neg (ne 3 (by decide) (by decide)), if_neg (ne 4 (by decide) (by decide)), if_neg (ne 5 (by decide) (by decide)), if_neg (ne 6 (by decide) (by decide)), if_neg (ne 7 (by decide) (by decide))]
theorem o_count : op_count RR := by
  intro σ τ a h
  unfold fX5_count
  rcases rng a 7 (by decide) with g | ⟨c1, c2, c3⟩ | ⟨w, hw, rfl, c1, c2, c3⟩
  · exact ⟨-1, xcount_bad (Or.inl g), by rw [in_neg g]; rfl, h⟩
  · have c3 : (7 : Int32) < a := c3
    exact ⟨-1, xcount_bad (Or.inr c3), by rw [in_big c3]; rfl, h⟩
  · have c3 : ¬ (7 : Int32) < nI w := c3
    obtain ⟨r, h1, h2⟩ := count_both h (show w < 8 by omega)
    exact ⟨r, h1, by rw [in_yes c1 c3, obind_some, if_neg i10, h2]; rfl, h⟩
