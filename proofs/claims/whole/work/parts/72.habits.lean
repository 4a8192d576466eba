/-! PURE: a village with other habits -/
def HB (τ τ' : pS) (o : Nat → Nat) : Prop := (∀ i, pI τ' 8 i = pI τ 8 i) ∧ (pI τ' 0 10 = pI τ 0 10 ∧ pI τ' 0 12 = pI τ 0 12 ∧ pI τ' 0 14 = pI τ 0 14) ∧ (∀ p k, k < 4 → k ≠ 2 → pI τ' 7 (4 * p + k) = pI τ 7 (4 * p + k)) ∧ ∀ p, p < tn τ → pI τ' 7 (4 * p + 2) = nI (o p) ∧ o p < 4096
theorem HB_tn {τ τ' : pS} {o : Nat → Nat} (h : HB τ τ' o) : tn τ' = tn τ := by unfold tn; rw [h.2.1.1]
theorem HB_td {τ τ' : pS} {o : Nat → Nat} (h : HB τ τ' o) : td τ' = td τ := by unfold td; rw [h.2.1.2.1]
theorem HB_kN {τ τ' : pS} {o : Nat → Nat} (h : HB τ τ' o) (p : Nat) : kN τ' p = kN τ p := by
  have := h.2.2.1 p 0 (by decide) (by decide)
  unfold kN; rw [show 4 * p = 4 * p + 0 from rfl, this]
theorem HB_mN {τ τ' : pS} {o : Nat → Nat} (h : HB τ τ' o) (p : Nat) : mN τ' p = mN τ p := by unfold mN; rw [h.2.2.1 p 1 (by decide) (by decide)]
theorem HB_fN {τ τ' : pS} {o : Nat → Nat} (h : HB τ τ' o) (d : Nat) : fN τ' d = fN τ d := by unfold fN; rw [h.1]
theorem HB_dN {τ τ' : pS} {o : Nat → Nat} (h : HB τ τ' o) (d : Nat) : tN τ' d = tN τ d := by unfold tN; rw [h.1]
theorem HB_wN {τ τ' : pS} {o : Nat → Nat} (h : HB τ τ' o) : wN τ' = wN τ := by unfold wN; rw [h.2.1.2.2]
theorem HB_oN {τ τ' : pS} {o : Nat → Nat} (h : HB τ τ' o) {p : Nat} (hp : p < tn τ) : outN τ' p = o p := by
  have := h.2.2.2 p hp
  unfold outN; rw [this.1, nI_clamp (by omega)]
theorem HB_pay {τ τ' : pS} {o : Nat → Nat} (h : HB τ τ' o) : payB τ' = payB τ := by
  have hl : leftB τ' = leftB τ := by funext o p; unfold leftB; rw [HB_kN h, HB_mN h]
  have hd : dogB τ' = dogB τ := by funext p t; unfold dogB; rw [HB_kN h]
  have he : emptyB τ' = emptyB τ := by funext o p t; unfold emptyB; rw [HB_wN h, hl, hd]
  funext o d t; unfold payB; rw [HB_fN h, HB_dN h, he]
theorem HB_fit {τ τ' : pS} {o : Nat → Nat} (h : HB τ τ' o) (s n : Nat) : fitT τ' s n = fitT τ s n := fit_like h.1 s n
theorem HB_rate {τ τ' : pS} {o : Nat → Nat} (h : HB τ τ' o) (s n : Nat) : rateT τ' s n = rateT τ s n := rate_like h.1 s n
theorem HB_Ro {τ τ' : pS} {o : Nat → Nat} (ho : Ro τ) (h : HB τ τ' o) : Ro τ' := by
  obtain ⟨h1, h2, h3, h4, h5, h6, h7⟩ := ho
  unfold Ro
  rw [HB_tn h, HB_td h, h.2.1.1, h.2.1.2.1, h.2.1.2.2]
  refine ⟨h1, h2, h3, h4, h5, fun p hp => ?_, fun d hd => ?_⟩
  · obtain ⟨k, k1, k2, k3, k4, k5, k6⟩ := h6 p hp
    unfold okP
    rw [HB_tn h]
    have e0 := h.2.2.1 p 0 (by decide) (by decide)
    rw [Nat.add_zero] at e0
    rw [e0, h.2.2.1 p 1 (by decide) (by decide), h.2.2.1 p 3 (by decide) (by decide)]
    exact ⟨k, k1, k2, k3, k4, ⟨o p, (h.2.2.2 p hp).2, (h.2.2.2 p hp).1⟩, k6⟩
  · unfold okD
    rw [HB_tn h]
    simp only [h.1]
    exact h7 d hd
/-- which debts can be paid if these are out -/
def mayO (τ : pS) (t : Nat) (o : Nat → Bool) : Nat := bset (fun d => payB τ o d t) (td τ)
theorem mayO_S (τ : pS) (t : Nat) : mayO τ t (outB τ t) = mayS τ t := rfl
theorem mayO_congr {τ : pS} (ho : Ro τ) (t : Nat) {o o' : Nat → Bool} (h : ∀ p, p < tn τ → o p = o' p) : mayO τ t o = mayO τ t o' := bset_congr _ (fun d hd => payB_congr ho h hd t)
theorem HB_may {τ τ' : pS} {o : Nat → Nat} (ho : Ro τ) (h : HB τ τ' o) (t : Nat) : mayS τ' t = mayO τ t (fun p => (o p).testBit t) := by
  unfold mayS
  rw [HB_td h, HB_pay h]
  exact mayO_congr ho t (fun p hp => by unfold outB; rw [HB_oN h hp])
theorem HB_most {τ τ' : pS} {o : Nat → Nat} (h : HB τ τ' o) : mostOf τ' = mostOf τ := by
  funext m
  unfold mostOf
  have : mostSt τ' = mostSt τ := by
    funext v a
    unfold mostSt
    rw [HB_td h, HB_fit h]
  rw [this]
theorem HB_rf {τ : pS} (ho : Ro τ) : HB τ τ (outN τ) := ⟨fun _ => rfl, ⟨rfl, rfl, rfl⟩, fun _ _ _ _ => rfl, fun p hp => outN_ok (ho.2.2.2.2.2.1 p hp)⟩
/-! few: the reference keeps, changes and restores -/
def calO (τ : pS) (t s n p : Nat) : Nat := if p < n ∧ s.testBit p = true then outN τ p ||| 2 ^ t else outN τ p
theorem keep_hab {τ : pS} (ho : Ro τ) : ∃ τ', fX5_keepHabits τ = some ((), τ') ∧ only τ τ' 15 ∧ ∀ p, p < tn τ → pI τ' 15 p = pI τ 7 (4 * p + 2) := by
  have o1 := ho.1
  unfold fX5_keepHabits
  obtain ⟨τ', h1, h2, h3⟩ := whS (fun F s v => lX5_keepHabits_2 (fun σ2 => some ((), σ2)) F v s) (n := tn τ) (by omega) (fun j s => only τ s 15 ∧ ∀ p, p < j → pI s 15 p = pI τ 7 (4 * p + 2)) (fun σ2 => some ((), σ2)) τ ⟨only_rf, fun p hp => absurd hp (Nat.not_lt_zero p)⟩ (fun F s hs => by
      show lX5_keepHabits_2 _ (F + 1) _ s = _
      rw [lX5_keepHabits_2.eq_2, hs.1.1 0 10 (by decide), ho.2.2.1, if_pos (nI_le (Nat.le_refl _) (by omega))]) (fun F s j hj hs => ⟨sI s 15 j (pI τ 7 (4 * j + 2)), by
      show lX5_keepHabits_2 _ (F + 1) _ s = _
      rw [lX5_keepHabits_2.eq_2, hs.1.1 0 10 (by decide), ho.2.2.1, if_neg (nI_nge (by omega) (by omega)), n4 2 (show (2 : Int32) = nI 2 from rfl), pin_lit (show 4 * j + 2 < 24 by omega) (by decide), pin_lit (show j < 6 by omega) (by decide), nI_clamp (show j < 2 ^ 31 by omega), nI_clamp (show 4 * j + 2 < 2 ^ 31 by omega), hs.1.1 7 _ (by decide)]
      simp only [if_true, plet_eq, nI_1], only_tr hs.1 only_s, fun p hp => by
        by_cases q : p = j
        · rw [q, pI_sI_eq]
        · rw [pI_sI_nj q]; exact hs.2 p (by omega)⟩)
  exact ⟨τ', h1, h2, h3⟩
theorem call_hab {τ : pS} (ho : Ro τ) {t : Nat} (ht : t < 12) {s : Nat} (hs64 : s < 64) (a b c : Int32) (k : pS → Option (Int32 × pS)) : ∃ τ', lX5_few_114 (nI t) a b c (nI s) k FU 0 τ = k τ' ∧ only τ τ' 7 ∧ HB τ τ' (calO τ t s (tn τ)) ∧ ∀ p, tn τ ≤ p → pI τ' 7 (4 * p + 2) = pI τ 7 (4 * p + 2) := by
  have o1 := ho.1
  have pt := pow_lt12 ht
  have ol : ∀ p, p < tn τ → outN τ p ||| 2 ^ t < 4096 := fun p hp => Nat.or_lt_two_pow (n := 12) (out_lt ho hp) pt
  have co : ∀ n p, p < tn τ → calO τ t s n p < 4096 := fun n p hp => by
    unfold calO
    split
    · exact ol p hp
    · exact out_lt ho hp
  refine whS (fun F s' v => lX5_few_114 (nI t) a b c (nI s) k F v s') (n := tn τ) (by omega) (fun j s' => only τ s' 7 ∧ HB τ s' (calO τ t s j) ∧ ∀ p, tn τ ≤ p → pI s' 7 (4 * p + 2) = pI τ 7 (4 * p + 2)) k τ ⟨only_rf, ⟨(HB_rf ho).1, (HB_rf ho).2.1, (HB_rf ho).2.2.1, fun p hp => ?_⟩, fun _ _ => rfl⟩ (fun F s' hs => by
      show lX5_few_114 _ _ _ _ _ _ (F + 1) _ s' = _
      rw [lX5_few_114.eq_2, hs.1.1 0 10 (by decide), ho.2.2.1, if_pos (nI_le (Nat.le_refl _) (by omega))]) (fun F s' j hj hs => ⟨sI s' 7 (4 * j + 2) (nI (calO τ t s (j + 1) j)), ?_, only_tr hs.1 only_s, ⟨fun i => ?_, ⟨?_, ?_, ?_⟩, fun p k' h1 h2 => ?_, fun p hp => ⟨?_, co _ p hp⟩⟩, fun p hp => ?_⟩)
  · rw [show calO τ t s 0 p = outN τ p by unfold calO; rw [if_neg (fun z => absurd z.1 (Nat.not_lt_zero p))]]
    exact outN_ok (ho.2.2.2.2.2.1 p hp)
  · show lX5_few_114 _ _ _ _ _ _ (F + 1) _ s' = _
    have e := (hs.2.1.2.2.2 j hj).1
    rw [show calO τ t s j j = outN τ j by unfold calO; rw [if_neg (fun z => absurd z.1 (Nat.lt_irrefl j))]] at e
    rw [lX5_few_114.eq_2, hs.1.1 0 10 (by decide), ho.2.2.1, if_neg (nI_nge (by omega) (by omega)), n4 2 (show (2 : Int32) = nI 2 from rfl), pin_lit (show 4 * j + 2 < 24 by omega) (by decide), nI_clamp (show 4 * j + 2 < 2 ^ 31 by omega), has_eq (by omega) (by omega), e, q_one (by omega)]
    simp only [if_true, plet_eq, nI_1, obind_some, b2i_0, q_or, or_0]
    unfold calO
    cases hb : s.testBit j
    · simp
    · simp
  · rw [pI_sI_ne (by decide)]; exact hs.2.1.1 i
  · rw [pI_sI_ne (by decide)]; exact hs.2.1.2.1.1
  · rw [pI_sI_ne (by decide)]; exact hs.2.1.2.1.2.1
  · rw [pI_sI_ne (by decide)]; exact hs.2.1.2.1.2.2
  · rw [pI_sI_nj (by omega)]; exact hs.2.1.2.2.1 p k' h1 h2
  · by_cases q : p = j
    · rw [q, pI_sI_eq]
    · rw [pI_sI_nj (by omega), (hs.2.1.2.2.2 p hp).1]
      congr 1
      unfold calO
      by_cases q2 : p < j
      · simp [q2, show p < j + 1 by omega]
      · simp [q2, show ¬ p < j + 1 by omega]
  · rw [pI_sI_nj (by omega)]; exact hs.2.2 p hp
theorem pS_ext {σ σ' : pS} (h1 : ∀ e i, pI σ e i = pI σ' e i) (h2 : ∀ e i, pL σ e i = pL σ' e i) (h3 : ∀ e i, pR σ e i = pR σ' e i) : σ = σ' := Prod.ext (funext fun e => funext (h1 e)) (Prod.ext (funext fun e => funext (h2 e)) (funext fun e => funext (h3 e)))
theorem back_hab {τ τ' : pS} (ho : Ro τ) (ht : only τ τ' 7) (h7 : ∀ p k, k < 4 → (k ≠ 2 ∨ tn τ ≤ p) → pI τ' 7 (4 * p + k) = pI τ 7 (4 * p + k)) (h15 : ∀ p, p < tn τ → pI τ 15 p = pI τ 7 (4 * p + 2)) : fX5_backHabits τ' = some ((), τ) := by
  have o1 := ho.1
  unfold fX5_backHabits
  obtain ⟨τ'', h1, h2, h3, h4⟩ := whS (fun F s v => lX5_backHabits_2 (fun σ2 => some ((), σ2)) F v s) (n := tn τ) (by omega) (fun j s => only τ s 7 ∧ (∀ p k, k < 4 → (k ≠ 2 ∨ tn τ ≤ p) → pI s 7 (4 * p + k) = pI τ 7 (4 * p + k)) ∧ ∀ p, p < j → pI s 7 (4 * p + 2) = pI τ 7 (4 * p + 2)) (fun σ2 => some ((), σ2)) τ' ⟨ht, h7, fun p hp => absurd hp (Nat.not_lt_zero p)⟩ (fun F s hs => by
      show lX5_backHabits_2 _ (F + 1) _ s = _
      rw [lX5_backHabits_2.eq_2, hs.1.1 0 10 (by decide), ho.2.2.1, if_pos (nI_le (Nat.le_refl _) (by omega))]) (fun F s j hj hs => ⟨sI s 7 (4 * j + 2) (pI τ 7 (4 * j + 2)), by
      show lX5_backHabits_2 _ (F + 1) _ s = _
      rw [lX5_backHabits_2.eq_2, hs.1.1 0 10 (by decide), ho.2.2.1, if_neg (nI_nge (by omega) (by omega)), n4 2 (show (2 : Int32) = nI 2 from rfl), pin_lit (show 4 * j + 2 < 24 by omega) (by decide), pin_lit (show j < 6 by omega) (by decide), nI_clamp (show j < 2 ^ 31 by omega), nI_clamp (show 4 * j + 2 < 2 ^ 31 by omega), hs.1.1 15 _ (by decide), h15 j hj]
      simp only [if_true, plet_eq, nI_1], only_tr hs.1 only_s, fun p k hk hn => by
        rw [pI_sI_nj (by omega)]; exact hs.2.1 p k hk hn, fun p hp => by
        by_cases q : p = j
        · rw [q, pI_sI_eq]
        · rw [pI_sI_nj (by omega)]; exact hs.2.2 p (by omega)⟩)
  refine h1.trans ?_
  refine congrArg some (congrArg (Prod.mk ()) (pS_ext (fun e i => ?_) h2.2.1 h2.2.2))
  by_cases e7 : e = 7
  · subst e7
    have em : i = 4 * (i / 4) + i % 4 := by omega
    rw [em]
    by_cases q : i % 4 = 2 ∧ i / 4 < tn τ
    · rw [q.1]; exact h4 _ q.2
    · exact h3 _ _ (by omega) (by omega)
  · exact h2.1 e i e7
