/-! PURE: the book counted, kept, taken up; paid; against -/
def cnt (f : Nat → Bool) : Nat → Nat
  | 0 => 0
  | n + 1 => cnt f n + if f n then 1 else 0
theorem cnt_le (f : Nat → Bool) : ∀ n, cnt f n ≤ n
  | 0 => Nat.le_refl 0
  | n + 1 => by unfold cnt; have := cnt_le f n; split <;> omega
theorem cnt_congr {f g : Nat → Bool} : ∀ n, (∀ i, i < n → f i = g i) → cnt f n = cnt g n
  | 0, _ => rfl
  | n + 1, h => by unfold cnt; rw [cnt_congr n (fun i hi => h i (by omega)), h n (by omega)]
theorem fuel_s {q F : Nat} (h : q < F) : ∃ G, F = G + 1 := ⟨F - 1, by omega⟩
theorem i01 : ¬ ((0 : Int32) = 1) := by decide
def pdX (σ : pS) (d : Nat) : Bool := decide (¬ pI σ 9 d = -9)
def pdM (τ : pS) (d : Nat) : Bool := decide (¬ pI τ 8 (5 * d + 4) = -9)
theorem xpaid_run (σ : pS) {n : Nat} (hn : n ≤ 8) (k : Int32 → Option Int32) : ∀ (q j F : Nat), j + q = n → q < F → lX0_howManyPaid_4 σ (nI n) k F (nI (cnt (pdX σ) j)) (nI j) = k (nI (cnt (pdX σ) n)) := by
  intro q
  induction q with
  | zero =>
    intro j F hj hF
    obtain ⟨F, rfl⟩ := fuel_s hF
    rw [lX0_howManyPaid_4.eq_2, if_pos (nI_le (by omega) (by omega)), show j = n by omega]
  | succ q ih =>
    intro j F hj hF
    obtain ⟨F, rfl⟩ := fuel_s hF
    rw [lX0_howManyPaid_4.eq_2, if_neg (nI_nge (by omega) (by omega)), isPaid_eq (by omega)]
    have h := ih (j + 1) F (by omega) (by omega)
    simp only [obind_some, nI_1]
    by_cases e : pI σ 9 j = -9
    · simp only [e, if_true]
      rw [show cnt (pdX σ) (j + 1) = cnt (pdX σ) j by simp [cnt, pdX, e]] at h
      exact h
    · simp only [e, if_false, i10]
      rw [show cnt (pdX σ) (j + 1) = cnt (pdX σ) j + 1 by simp [cnt, pdX, e]] at h
      exact h
theorem xpaid_eq (σ : pS) {n : Nat} (hn : n ≤ 8) : fX0_howManyPaid σ (nI n) = some (nI (cnt (pdX σ) n)) := xpaid_run σ hn _ n 0 FU (by omega) (by simp [FU]; omega)
theorem mpaid_run (τ : pS) {n : Nat} (hn : n ≤ 8) (e12 : pI τ 0 12 = nI n) (k : Int32 → Option Int32) : ∀ (q j F : Nat), j + q = n → q < F → lX5_paidNow_4 τ k F (nI (cnt (pdM τ) j)) (nI j) = k (nI (cnt (pdM τ) n)) := by
  intro q
  induction q with
  | zero =>
    intro j F hj hF
    obtain ⟨F, rfl⟩ := fuel_s hF
    rw [lX5_paidNow_4.eq_2, e12, if_pos (nI_le (by omega) (by omega)), show j = n by omega]
  | succ q ih =>
    intro j F hj hF
    obtain ⟨F, rfl⟩ := fuel_s hF
    rw [lX5_paidNow_4.eq_2, e12, if_neg (nI_nge (by omega) (by omega)), debtAt_eq (show j < 8 by omega) (show 4 < 5 by decide) (show (4 : Int32) = nI 4 from rfl)]
    have h := ih (j + 1) F (by omega) (by omega)
    simp only [obind_some, plet_eq, nI_1]
    by_cases e : pI τ 8 (5 * j + 4) = -9
    · simp only [e, if_true]
      rw [show cnt (pdM τ) (j + 1) = cnt (pdM τ) j + 0 by simp [cnt, pdM, e], ← nI_add] at h
      exact h
    · simp only [e, if_false]
      rw [show cnt (pdM τ) (j + 1) = cnt (pdM τ) j + 1 by simp [cnt, pdM, e]] at h
      exact h
theorem mpaid_eq (τ : pS) (h : Ro τ) : fX5_paidNow τ = some (nI (cnt (pdM τ) (td τ))) := mpaid_run τ h.2.1 h.2.2.2.1 _ (td τ) 0 FU (by omega) (by have := h.2.1; simp [FU]; omega)
theorem pd_like {σ τ : pS} (h : RR σ τ) : cnt (pdX σ) (td τ) = cnt (pdM τ) (td τ) := cnt_congr _ (fun d hd => by unfold pdX pdM; rw [(h.2.2.2.1.2.2.2.2.2.2.2 d hd).2.2.2.2])
theorem keepPlace_cases (a : Int32) : (fX4_isKeepingPlace a = some 0 ∧ fX5_in a 0 2 = some 0) ∨ ∃ k, k < 3 ∧ a = nI k ∧ fX4_isKeepingPlace a = some 1 ∧ fX5_in a 0 2 = some 1 := by
  unfold fX4_isKeepingPlace
  have e3 : (2 : Int32) = nI 3 - 1 := by decide
  rw [e3]
  rcases in_place a 3 (by omega) with ⟨g, e | ⟨e1, e2⟩⟩ | ⟨j, hj, rfl, g, e1, e2⟩
  · exact Or.inl ⟨by rw [if_pos e], g⟩
  · have e2 : (3 : Int32) ≤ a := e2
    exact Or.inl ⟨by rw [if_neg e1, if_pos e2], g⟩
  · have e2 : ¬ (3 : Int32) ≤ nI j := e2
    exact Or.inr ⟨j, hj, rfl, by rw [if_neg e1, if_neg e2], g⟩
theorem n8 {k j : Nat} : (8 : Int32) * nI k + nI j = nI (8 * k + j) := by
  rw [show (8 : Int32) = nI 8 from rfl, pk_mul, nI_add]
theorem pcp8 (a b : Nat) : pcp wX a b 8 8 0 0 8 = true := rfl
theorem cpy8 (f g : Nat → Int32) {i : Nat} (hi : i < 8) : va_cpy f g ((0 : Int32)).toNatClampNeg ((0 : Int32)).toNatClampNeg ((8 : Int32)).toNatClampNeg i = f i := by
  show va_cpy f g 0 0 8 i = f i
  rw [pk_cpy_in (by omega) (by omega)]
  simp
theorem mkeep_run {c n : Nat} (hc : c < 3) (hn : n ≤ 8) (k : pS → Option (Int32 × pS)) : ∀ (q j F : Nat) (τ : pS), j + q = n → q < F → pI τ 0 12 = nI n → (∀ d, d < j → pI τ 17 (8 * c + d) = pI τ 8 (5 * d + 4)) → ∃ τ', lX5_keep_13 (nI c) k F (nI j) τ = k τ' ∧ (∀ d, d < n → pI τ' 17 (8 * c + d) = pI τ 8 (5 * d + 4)) ∧ (∀ i, (i < 8 * c ∨ 8 * c + 8 ≤ i) → pI τ' 17 i = pI τ 17 i) ∧ only τ τ' 17 := by
  intro q
  induction q with
  | zero =>
    intro j F τ hj hF e12 hv
    obtain ⟨F, rfl⟩ := fuel_s hF
    refine ⟨τ, ?_, fun d hd => hv d (by omega), fun _ _ => rfl, only_rf⟩
    rw [lX5_keep_13.eq_2, e12, if_pos (nI_le (by omega) (by omega))]
  | succ q ih =>
    intro j F τ hj hF e12 hv
    obtain ⟨F, rfl⟩ := fuel_s hF
    obtain ⟨τ', h1, h2, h3, h4⟩ := ih (j + 1) F (sI τ 17 (8 * c + j) (pI τ 8 (5 * j + 4))) (by omega) (by omega) (by rw [pI_sI_ne (by decide)]; exact e12) (fun d hd => by
      rw [pI_sI_ne (e' := 8) (by decide)]
      by_cases e : d = j
      · rw [e, pI_sI_eq]
      · rw [pI_sI_nj (by omega)]; exact hv d (by omega))
    refine ⟨τ', ?_, fun d hd => by rw [h2 d hd, pI_sI_ne (by decide)], fun i hi => by rw [h3 i hi, pI_sI_nj (by omega)], only_sI h4⟩
    rw [lX5_keep_13.eq_2, e12, if_neg (nI_nge (by omega) (by omega)), debtAt_eq (show j < 8 by omega) (show 4 < 5 by decide) (show (4 : Int32) = nI 4 from rfl)]
    simp only [obind_some, n8, pin_lit (show 8 * c + j < 24 by omega) (show 24 ≤ 2 ^ 31 by decide), if_true, plet_eq, nI_clamp (show 8 * c + j < 2 ^ 31 by omega), nI_1]
    exact h1
theorem o_keep : op_keep RR := by
  intro σ τ a h
  have v1 : isV (pR σ 0 8) = true := h.2.2.2.1.1
  have hv := vl_ge h.2.2.2.1
  have o2 := h.2.2.2.2.1.2.1
  have o4 := h.2.2.2.2.1.2.2.2.1
  have v5 : pI σ (pR σ 0 8) 1 = pI τ 0 12 := h.2.2.2.1.2.2.2.2.1
  unfold fX4_keep fX5_keep
  rcases keepPlace_cases a with ⟨g1, g2⟩ | ⟨c, hc, rfl, g1, g2⟩
  · exact ⟨-1, σ, τ, by rw [g1]; rfl, by rw [g2]; rfl, h⟩
  rw [g1, g2]
  obtain ⟨τ1, f1, f2, f3, f4⟩ := mkeep_run hc o2 (fun (σ6 : pS) => (fX5_paidNow (sI σ6 16 c 1)).bind fun r9 => some (r9, sI σ6 16 c 1)) (td τ) 0 FU τ (by omega) (by simp [FU]; omega) o4 (fun d hd => absurd hd (Nat.not_lt_zero d))
  unfold fX0_store
  simp only [obind_some, i10, if_false, pin_lit hc (show 3 ≤ 2 ^ 31 by decide), nI_clamp (show c < 2 ^ 31 by omega), if_true, pcp8, plet_eq, pbind_some, nar1]
  let σ1 := sI (sF σ (30 + c) (va_cpy (σ.1 9) (σ.1 (30 + c)) ((0 : Int32)).toNatClampNeg ((0 : Int32)).toNatClampNeg ((8 : Int32)).toNatClampNeg)) 11 c 1
  let τ2 := sI τ1 16 c 1
  have hR : RR σ1 τ2 := by
    have ed : td τ2 = td τ := by unfold td; rw [pI_sI_ne (by decide), f4.1 0 12 (by decide)]
    have en : tn τ2 = tn τ := by unfold tn; rw [pI_sI_ne (by decide), f4.1 0 10 (by decide)]
    have xo : ∀ e i, e ≠ 11 → e ≠ 30 + c → pI σ1 e i = pI σ e i := fun e i q1 q2 => by
      show pI (sI (sF σ (30 + c) _) 11 c 1) e i = _
      rw [pI_sI_ne q1, pI_sF, if_neg q2]
    have mo : ∀ e i, e ≠ 16 → e ≠ 17 → pI τ2 e i = pI τ e i := fun e i q1 q2 => by
      show pI (sI τ1 16 c 1) e i = _
      rw [pI_sI_ne q1, f4.1 e i q2]
    have hm : (∀ e, (e = 7 ∨ e = 8) → ∀ i, pI τ2 e i = pI τ e i) := fun e he i => mo e i (by omega) (by omega)
    obtain ⟨a1, a2, a3, a4, a5⟩ := h.1
    obtain ⟨w1, w2, w3, w4, w5, w6, w7, w8⟩ := h.2.2.2.1
    refine ⟨⟨?_, a2.trans (f4.2.1 0 3).symm, ?_, ?_, fun f hf => ?_⟩, Rr_frame h.2.1 (fun e he i => xo e i (by omega) (by omega)) (fun e he i => mo e i (by omega) (by omega)), Rt_frame h.2.2.1 (fun e he i => xo e i (by omega) (by omega)) (fun e he i => mo e i (by omega) (by omega)), ⟨w1, w2, w3, ?_, ?_, ?_, fun p hp => ?_, fun d hd => ?_⟩, ?_, fun k hk => ?_, ?_, ?_, fun s hs => ?_⟩
    · exact xm (xo 0 9 (by omega) (by omega)) (mo 0 2 (by decide) (by decide)) a1
    · exact a3.trans (f4.2.1 0 4).symm
    · exact xm (xo 0 12 (by omega) (by omega)) (mo 0 0 (by decide) (by decide)) a4
    · exact xm (xo 8 f (by omega) (by omega)) (mo 1 f (by decide) (by decide)) (a5 f hf)
    · exact xm (xo (vl σ) 0 (by omega) (by omega)) (mo 0 10 (by decide) (by decide)) w4
    · exact xm (xo (vl σ) 1 (by omega) (by omega)) (mo 0 12 (by decide) (by decide)) w5
    · exact xm (xo (vl σ) 2 (by omega) (by omega)) (mo 0 14 (by decide) (by decide)) w6
    · rw [en] at hp
      obtain ⟨y1, y2, y3, y4⟩ := w7 p hp
      exact ⟨xm (xo (vl σ + 1) p (by omega) (by omega)) (mo 7 _ (by decide) (by decide)) y1, xm (xo (vl σ + 2) p (by omega) (by omega)) (mo 7 _ (by decide) (by decide)) y2, xm (xo (vl σ + 3) p (by omega) (by omega)) (mo 7 _ (by decide) (by decide)) y3, xm (xo (vl σ + 4) p (by omega) (by omega)) (mo 7 _ (by decide) (by decide)) y4⟩
    · rw [ed] at hd
      obtain ⟨y1, y2, y3, y4, y5⟩ := w8 d hd
      exact ⟨xm (xo (vl σ + 5) d (by omega) (by omega)) (mo 8 _ (by decide) (by decide)) y1, xm (xo (vl σ + 6) d (by omega) (by omega)) (mo 8 _ (by decide) (by decide)) y2, xm (xo (vl σ + 7) d (by omega) (by omega)) (mo 8 _ (by decide) (by decide)) y3, xm (xo (vl σ + 8) d (by omega) (by omega)) (mo 8 _ (by decide) (by decide)) y4, xm (xo 9 d (by omega) (by omega)) (mo 8 _ (by decide) (by decide)) y5⟩
    · obtain ⟨z1, z2, z3, z4, -, z6, z7⟩ := h.2.2.2.2.1
      unfold Ro okP okD
      rw [en, ed]
      have e7 : ∀ i, pI τ2 7 i = pI τ 7 i := hm 7 (Or.inl rfl)
      have e8 : ∀ i, pI τ2 8 i = pI τ 8 i := hm 8 (Or.inr rfl)
      simp only [e7, e8, mo 0 10 (by decide) (by decide), mo 0 12 (by decide) (by decide), mo 0 14 (by decide) (by decide)]
      exact ⟨z1, z2, z3, z4, h.2.2.2.2.1.2.2.2.2.1, z6, z7⟩
    · rw [ed]
      by_cases e : k = c
      · subst e
        refine Or.inr ⟨pI_sI_eq, pI_sI_eq, fun d hd => ?_⟩
        have hd8 : d < 8 := by omega
        have e30 : pI σ1 (30 + k) d = pI σ 9 d := by
          show pI (sI (sF σ (30 + k) _) 11 k 1) (30 + k) d = _
          rw [pI_sI_ne (by omega), pI_sF, if_pos rfl, cpy8 _ _ hd8]
          rfl
        have e17 : pI τ2 17 (8 * k + d) = pI τ 8 (5 * d + 4) := by
          show pI (sI τ1 16 k 1) 17 _ = _
          rw [pI_sI_ne (by decide), f2 d hd]
        rw [e30, e17]
        refine ⟨(w8 d hd).2.2.2.2, ?_⟩
        obtain ⟨_, _, _, _, _, _, _, _, _, _, _, _, _, _, hh⟩ := h.2.2.2.2.1.2.2.2.2.2.2 d hd
        exact hh
      · have q := h.2.2.2.2.2.1 k hk
        have e11 : pI σ1 11 k = pI σ 11 k := by
          show pI (sI (sF σ (30 + c) _) 11 c 1) 11 k = _
          rw [pI_sI_nj e, pI_sF, if_neg (by omega)]
        have e16 : pI τ2 16 k = pI τ 16 k := by
          show pI (sI τ1 16 c 1) 16 k = _
          rw [pI_sI_nj e, f4.1 16 k (by decide)]
        rw [e11, e16]
        rcases q with q | ⟨q1, q2, q3⟩
        · exact Or.inl q
        · refine Or.inr ⟨q1, q2, fun d hd => ?_⟩
          have e17 : pI τ2 17 (8 * k + d) = pI τ 17 (8 * k + d) := by
            show pI (sI τ1 16 c 1) 17 _ = _
            rw [pI_sI_ne (by decide), f3 _ (by omega)]
          rw [xo (30 + k) d (by omega) (by omega), e17]
          exact q3 d hd
    · rw [ed]; exact (xo 3 0 (by omega) (by omega)).trans h.2.2.2.2.2.2.1
    · rw [ed]; exact (xo 3 1 (by omega) (by omega)).trans h.2.2.2.2.2.2.2.1
    · rw [ed] at hs ⊢
      have e8 : ∀ i, pI τ2 8 i = pI τ 8 i := hm 8 (Or.inr rfl)
      rw [xo 12 s (by omega) (by omega), xo 13 s (by omega) (by omega), fit_like e8, rate_like e8]
      exact h.2.2.2.2.2.2.2.2 s hs
  have v1' : isV (pR σ1 0 8) = true := v1
  have v5' : pI σ1 (pR σ1 0 8) 1 = nI (td τ) := by
    have := hR.2.2.2.1.2.2.2.2.1
    have e2 : pI τ2 0 12 = nI (td τ) := by
      show pI (sI τ1 16 c 1) 0 12 = _
      rw [pI_sI_ne (by decide), f4.1 0 12 (by decide)]; exact o4
    exact this.trans e2
  have ed : td τ2 = td τ := by unfold td; rw [pI_sI_ne (by decide), f4.1 0 12 (by decide)]
  refine ⟨nI (cnt (pdX σ1) (td τ)), σ1, τ2, ?_, ?_, hR⟩
  · show (if isV (pR σ1 0 8) = true then (fX0_howManyPaid σ1 (pI σ1 (pR σ1 0 8) 1)).bind fun r8 => some (r8, σ1) else none) = _
    rw [v1', v5', xpaid_eq σ1 o2]
    rfl
  · refine f1.trans ?_
    show ((fX5_paidNow τ2).bind fun r9 => some (r9, τ2)) = _
    rw [mpaid_eq τ2 hR.2.2.2.2.1, ed, ← ed, ← pd_like hR, ed]
    rfl
