/-! PURE: losses up to an hour; soonest -/
def PX (σ τ : pS) (mk : Nat → Nat) (t : Nat) : Prop := ∀ s, s < 2 ^ td τ → pI σ 16 s = nI (Pl (dpO τ) mk t s)
theorem startBefore_eq {σ τ : pS} (h : RR σ τ) (mk : Nat → Nat) : ∃ σ', fX2_startBefore σ = some ((), σ') ∧ only σ σ' 16 ∧ PX σ' τ mk 0 := by
  have hp8 := pow8 (hD8 h)
  unfold fX2_startBefore
  obtain ⟨σ1, f1, f2, f3⟩ := xfillI (e := 16) (n := 256) (by decide) (by decide) (by decide) 1000000 σ
  rw [f1, pbind_some]
  refine ⟨sI σ1 16 0 0, rfl, only_tr f3 only_s, fun s hs => ?_⟩
  unfold Pl
  by_cases z : s = 0
  · rw [z, pI_sI_eq, if_pos rfl]; rfl
  · rw [pI_sI_nj z, if_neg z, f2 s (by omega)]; rfl
theorem passHour_eq {σ τ : pS} (h : RR σ τ) {mk : Nat → Nat} (hm : ∀ x, mk x < 2 ^ td τ) (hp : payX σ mk) {t : Nat} (ht : t < 12) (hx : PX σ τ mk t) : ∃ σ', fX2_passHour σ (nI t) = some ((), σ') ∧ only σ σ' 16 ∧ PX σ' τ mk (t + 1) := by
  have o2 := hD8 h
  have hp8 := pow8 o2
  have p0 := Nat.two_pow_pos (td τ)
  have ho := h.2.2.2.2.1
  have gd := dpO_gd τ
  have hv := vl_ge h.2.2.2.1
  unfold fX2_passHour
  rw [allX h, plet_eq]
  obtain ⟨σ', k1, k2, k3, k4, -⟩ := whDN (fun F s v => lX2_passHour_5 (nI t) (fun σ10 => some ((), σ10)) F v s) (fun j s => only σ s 16 ∧ (∀ x, j ≤ x → x < 2 ^ td τ → pI s 16 x = nI (Pl (dpO τ) mk (t + 1) x)) ∧ (∀ x, x < j → pI s 16 x = pI σ 16 x) ∧ j ≤ 2 ^ td τ) (fun σ10 => some ((), σ10)) (n := 2 ^ td τ - 1) (by omega) σ ⟨only_rf, fun x x1 x2 => by omega, fun _ _ => rfl, by omega⟩ (fun F s hs => by
      show lX2_passHour_5 _ _ (F + 1) _ s = _
      rw [lX2_passHour_5.eq_2, if_pos (by decide)]) (fun F s j hs => by
      obtain ⟨s1, s2, s3, s4⟩ := hs
      have hR : RR s τ := RR_FX h (FX_only hv s1 (by omega))
      have wl : mk t &&& j ≤ j := Nat.and_le_right
      have old : ∀ x, x ≤ j → pI s 16 x = nI (Pl (dpO τ) mk t x) := fun x hx' => by rw [s3 x (by omega)]; exact hx x (by omega)
      have run : lX2_passHour_29 s (nI t) (nI j) (nI (mk t &&& j)) (fun (y8 : Int32) => if pin (nI j) 256 then plet (sI s 16 (nI j).toNatClampNeg y8) fun σ9 => lX2_passHour_5 (nI t) (fun σ10 => some ((), σ10)) F (nI j + (-1 : Int32)) σ9 else none) FU (nI (Pl (dpO τ) mk t j)) (nI (mk t &&& j)) = lX2_passHour_5 (nI t) (fun σ10 => some ((), σ10)) F (nI j + (-1 : Int32)) (sI s 16 j (nI (Pl (dpO τ) mk (t + 1) j))) := by
        have top := Pl_top gd mk t j
        refine (whFold (fun F' (a : Nat) v => lX2_passHour_29 s (nI t) (nI j) (nI (mk t &&& j)) (fun (y8 : Int32) => if pin (nI j) 256 then plet (sI s 16 (nI j).toNatClampNeg y8) fun σ9 => lX2_passHour_5 (nI t) (fun σ10 => some ((), σ10)) F (nI j + (-1 : Int32)) σ9 else none) F' (nI a) v) (m := mk t &&& j) (by omega) (fun a => a < 1000001) (minSt (dpO τ).1 (fun v => Pl (dpO τ) mk t (diff j v) + t * (dpO τ).2.1 v)) (fun a => lX2_passHour_5 (nI t) (fun σ10 => some ((), σ10)) F (nI j + (-1 : Int32)) (sI s 16 j (nI a))) (fun F' a _ => ?_) (fun F' a v h0 hv' hl' ha => ⟨?_, minSt_lt ha⟩) (Pl (dpO τ) mk t j) (by omega)).trans ?_
        · show lX2_passHour_29 s _ _ _ _ (F' + 1) _ _ = _
          rw [lX2_passHour_29.eq_2, if_pos (by decide), pin_lit (show j < 256 by omega) (by decide), if_pos rfl, plet_eq, nI_clamp (show j < 2 ^ 31 by omega)]
        · show lX2_passHour_29 s _ _ _ _ (F' + 1) _ _ = lX2_passHour_29 s _ _ _ _ F' _ _
          have hvl : v < 2 ^ td τ := by omega
          have dl := diff_le j v
          have tp := Pl_top gd mk t (diff j v)
          have r2 : t * (dpO τ).2.1 v ≤ 12 * 72 := Nat.mul_le_mul (by omega) (rateO_lt ho v)
          rw [lX2_passHour_29.eq_2, if_neg (nI_n0 h0 (by omega)), pin_lit (show v < 256 by omega) (by decide), nI_clamp (show v < 2 ^ 31 by omega), fitX hR hvl, rateX hR hvl, q_not, pin_lit (show diff j v < 256 by omega) (by decide), nI_clamp (show diff j v < 2 ^ 31 by omega), old _ dl, pk_mul, nI_add]
          simp only [if_true, plet_eq, sub_pred h0, b2i_0, min_lt (show a < 2 ^ 31 by omega) (show Pl (dpO τ) mk t (diff j v) + t * (dpO τ).2.1 v < 2 ^ 31 by omega)]
          unfold minSt
          cases (dpO τ).1 v
          · simp
          · simp
        · rw [← Pl_s]
      refine ⟨sI s 16 j (nI (Pl (dpO τ) mk (t + 1) j)), ?_, only_tr s1 only_s, fun x x1 x2 => ?_, fun x hx' => ?_, by omega⟩
      · show lX2_passHour_5 _ _ (F + 1) _ s = _
        rw [lX2_passHour_5.eq_2, if_neg (nI_pos (by omega)), pin_lit ht (by decide), if_pos rfl, nI_clamp (show t < 2 ^ 31 by omega), s1.1 14 t (by decide), hp t ht, q_and, plet_eq, pin_lit (show j < 256 by omega) (by decide), if_pos rfl, nI_clamp (show j < 2 ^ 31 by omega), old j (Nat.le_refl _), plet_eq]
        rw [pin_lit (show j < 256 by omega) (by decide), nI_clamp (show j < 2 ^ 31 by omega)] at run
        exact run
      · by_cases q : x = j
        · rw [q, pI_sI_eq]
        · rw [pI_sI_nj q]; exact s2 x (by omega) x2
      · rw [pI_sI_nj (by omega)]; exact s3 x (by omega))
  exact ⟨σ', k1, k2, fun s hs => k3 s (Nat.zero_le _) hs⟩
def mnN (f : Nat → Nat) (a : Nat) : Nat → Nat
  | 0 => a
  | n + 1 => min (mnN f a n) (f n)
theorem mnN_s (f : Nat → Nat) (a n : Nat) : mnN f a (n + 1) = min (mnN f a n) (f n) := rfl
theorem mnN_ok (f : Nat → Nat) (a : Nat) : ∀ n, mnN f a n ≤ a ∧ (∀ i, i < n → mnN f a n ≤ f i) ∧ (mnN f a n = a ∨ ∃ i, i < n ∧ mnN f a n = f i)
  | 0 => ⟨Nat.le_refl _, fun i hi => absurd hi (Nat.not_lt_zero i), Or.inl rfl⟩
  | n + 1 => by
    obtain ⟨h1, h2, h3⟩ := mnN_ok f a n
    rw [mnN_s]
    refine ⟨by omega, fun i hi => ?_, ?_⟩
    · by_cases e : i = n
      · rw [e]; omega
      · have := h2 i (by omega); omega
    · by_cases z : mnN f a n ≤ f n
      · rcases h3 with h3 | ⟨i, i1, i2⟩
        · left; omega
        · right; exact ⟨i, by omega, by omega⟩
      · right; exact ⟨n, by omega, by omega⟩
theorem mnN_eq {f : Nat → Nat} {a n L : Nat} (h1 : L ≤ a) (h2 : ∀ i, i < n → L ≤ f i) (h3 : ∃ i, i < n ∧ f i = L) : mnN f a n = L := by
  obtain ⟨a1, a2, a3⟩ := mnN_ok f a n
  obtain ⟨i, i1, i2⟩ := h3
  have := a2 i i1
  rcases a3 with a3 | ⟨q, q1, q2⟩
  · omega
  · have := h2 q q1; omega
theorem splitO {τ : pS} (ho : Ro τ) {mk : Nat → Nat} (hm : ∀ x, mk x < 2 ^ td τ) (t j : Nat) : (∀ s, Lo (dpO τ) mk (t + j) 0 0 ≤ Pl (dpO τ) mk t s + Lo (dpO τ) mk j t s) ∧ ∃ s, s < 2 ^ td τ ∧ Pl (dpO τ) mk t s + Lo (dpO τ) mk j t s = Lo (dpO τ) mk (t + j) 0 0 := split (N := td τ) (dpO_gd τ) (by have := dpO_lt ho 0; omega) (fun x v s h1 h2 => or_lt h2 (Nat.lt_of_le_of_lt (and_le h1) (hm x))) t j
theorem lossBefore_eq {σ τ : pS} (h : RR σ τ) {mk : Nat → Nat} (hm : ∀ x, mk x < 2 ^ td τ) {t : Nat} (hx : PX σ τ mk t) (h12 : ∀ s, s < 2 ^ td τ → pI σ 45 s = nI ((dpO τ).2.2 s)) : fX2_lossBefore σ = some (nI (Lo (dpO τ) mk t 0 0)) := by
  have o2 := hD8 h
  have hp8 := pow8 o2
  have p0 := Nat.two_pow_pos (td τ)
  have ho := h.2.2.2.2.1
  have gd := dpO_gd τ
  have e : mnN (fun s => Pl (dpO τ) mk t s + (dpO τ).2.2 s) 1000000 (2 ^ td τ) = Lo (dpO τ) mk t 0 0 := by
    obtain ⟨g1, s, g2, g3⟩ := splitO ho hm t 0
    have := LoO_lt ho mk t 0 0
    exact mnN_eq (by omega) (fun i _ => g1 i) ⟨s, g2, g3⟩
  unfold fX2_lossBefore
  rw [← e]
  refine whF (fun F (a : Int32) v => lX2_lossBefore_5 σ (fun y3 => some y3) F a v) (n := 2 ^ td τ) (by omega) (fun j => nI (mnN (fun s => Pl (dpO τ) mk t s + (dpO τ).2.2 s) 1000000 j)) _ (fun F => ?_) (fun F j hj => ?_)
  · show lX2_lossBefore_5 σ _ (F + 1) _ _ = _
    rw [lX2_lossBefore_5.eq_2, allX h, if_pos (nI_lt (by omega) (by omega))]
  · show lX2_lossBefore_5 σ _ (F + 1) _ _ = _
    have m1 := (mnN_ok (fun s => Pl (dpO τ) mk t s + (dpO τ).2.2 s) 1000000 j).1
    have p1 := Pl_top gd mk t j
    have p2 := dpO_lt ho j
    rw [lX2_lossBefore_5.eq_2, allX h, if_neg (nI_nlt (by omega) (by omega)), pin_lit (show j < 256 by omega) (by decide), nI_clamp (show j < 2 ^ 31 by omega), show pin (12 : Int32) 13 = true by decide, show 33 + ((12 : Int32)).toNatClampNeg = 45 by decide, hx j hj, h12 j hj, nI_add]
    simp only [if_true, plet_eq, nI_1]
    rw [min_lt (by omega) (by omega), mnN_s]
theorem TM_like {τ s s' : pS} (fb : FB τ s) {e a : Nat} (h : TM s s' e a) : TM τ s' e a := by
  have lm := FB_LM fb
  intro t t1 t2 x hx
  have := h t t1 t2 x (by rw [LM_td lm]; exact hx)
  rw [LM_td lm, LM_aw lm, LM_dpO lm, LM_mayf lm] at this
  exact this
def pdE (τ : pS) (e : Nat) : Bool := decide (td τ - Lo (dpO τ) (mayS τ) e 0 0 / 10000 = td τ - Lo (dpO τ) (mayS τ) 12 0 0 / 10000)
theorem xsoon {σ τ : pS} (h : RR σ τ) (hp : payX σ (mayS τ)) (hl : LTX σ τ (mayS τ) 0) : ∃ σ', fX2_leastEnd σ = some (nI (fstN (pdE τ) 12), σ') ∧ only σ σ' 16 ∧ PX σ' τ (mayS τ) (fstN (pdE τ) 12) := by
  have o2 := hD8 h
  have ho := h.2.2.2.2.1
  have gd := dpO_gd τ
  have hv := vl_ge h.2.2.2.1
  have hm := mayS_D τ
  unfold fX2_leastEnd
  obtain ⟨σ1, f1, f2, f3⟩ := startBefore_eq h (mayS τ)
  rw [f1, pbind_some]
  obtain ⟨a1, a2, a3⟩ := fstN_low (pdE τ) 12
  refine whP (fun F (s : pS) v => lX2_leastEnd_6 (fun (y15 : Int32) (σ16 : pS) => some (y15, σ16)) F v s) (n := 12) (by decide) (fun j s => only σ s 16 ∧ PX s τ (mayS τ) j ∧ ∀ e, e < j → pdE τ e = false) (fun o => ∃ σ', o = some (nI (fstN (pdE τ) 12), σ') ∧ only σ σ' 16 ∧ PX σ' τ (mayS τ) (fstN (pdE τ) 12)) σ1 ⟨f2, f3, fun e he => absurd he (Nat.not_lt_zero e)⟩ (fun F s hs => ?_) (fun F s j hj hs => ?_)
  · have e : fstN (pdE τ) 12 = 12 := by
      rcases Nat.lt_or_ge (fstN (pdE τ) 12) 12 with z | z
      · have := a3 z
        rw [hs.2.2 _ z] at this
        exact absurd this (by decide)
      · omega
    rw [e]
    refine ⟨s, ?_, hs.1, hs.2.1⟩
    show lX2_leastEnd_6 _ (F + 1) _ s = _
    rw [lX2_leastEnd_6.eq_2, if_pos (show (12 : Int32) ≤ nI 12 by decide)]
  · have hR : RR s τ := RR_FX h (FX_only hv hs.1 (by omega))
    have hl' : LTX s τ (mayS τ) 0 := fun x x1 x2 y hy => by rw [hs.1.1 _ _ (by omega)]; exact hl x x1 x2 y hy
    have hp' : payX s (mayS τ) := fun x hx => by rw [hs.1.1 14 x (by decide)]; exact hp x hx
    have lb := lossBefore_eq hR hm hs.2.1 (fun y hy => by rw [hs.1.1 45 _ (by decide)]; exact hl 12 (by omega) (by omega) y hy)
    have okj : lossOk τ (Lo (dpO τ) (mayS τ) j 0 0) := Lo_ok ho _ (by omega)
    have ok12 : lossOk τ (Lo (dpO τ) (mayS τ) 12 0 0) := Lo_ok ho _ (by decide)
    have mon := Lo_mon gd (mk := mayS τ) 0 0 j (12 - j)
    rw [show j + (12 - j) = 12 by omega] at mon
    have step : lX2_leastEnd_6 (fun (y15 : Int32) (σ16 : pS) => some (y15, σ16)) (F + 1) (nI j) s = if pdE τ j = true then some (nI j, s) else pbind (fX2_passHour s (nI j)) fun _ σ14 => lX2_leastEnd_6 (fun (y15 : Int32) (σ16 : pS) => some (y15, σ16)) F (nI (j + 1)) σ14 := by
      rw [lX2_leastEnd_6.eq_2, if_neg (show ¬ (12 : Int32) ≤ nI j from nI_nge (b := 12) hj (by decide)), lb, obind_some, paidOf_eq hR okj, obind_some, leastLoss_eq hl', obind_some, paidOf_eq hR ok12, obind_some, nI_1]
      simp only [nI_leI (show td τ - Lo (dpO τ) (mayS τ) 12 0 0 / 10000 < 2 ^ 31 by omega) (show td τ - Lo (dpO τ) (mayS τ) j 0 0 / 10000 < 2 ^ 31 by omega)]
      have dv : Lo (dpO τ) (mayS τ) 12 0 0 / 10000 ≤ Lo (dpO τ) (mayS τ) j 0 0 / 10000 := Nat.div_le_div_right mon
      unfold pdE
      by_cases z : td τ - Lo (dpO τ) (mayS τ) j 0 0 / 10000 = td τ - Lo (dpO τ) (mayS τ) 12 0 0 / 10000
      · rw [if_pos (by omega), decide_eq_true z, if_pos rfl]
      · rw [if_neg (by omega), decide_eq_false z]
        rfl
    cases q : pdE τ j
    · left
      obtain ⟨s', b1, b2, b3⟩ := passHour_eq hR hm hp' hj hs.2.1
      refine ⟨s', ?_, only_tr hs.1 b2, b3, fun e he => ?_⟩
      · show lX2_leastEnd_6 _ (F + 1) _ s = _
        rw [step, q, if_neg (by decide), b1, pbind_some]
      · by_cases z : e = j
        · rw [z]; exact q
        · exact hs.2.2 e (by omega)
    · right
      have e : fstN (pdE τ) 12 = j := fstN_eq hj q hs.2.2
      rw [e]
      refine ⟨s, ?_, hs.1, hs.2.1⟩
      show lX2_leastEnd_6 _ (F + 1) _ s = _
      rw [step, q, if_pos rfl]
theorem nI_sub_l (a x y : Nat) : nI (a + x) - nI (a + y) = nI x - nI y := by
  rw [← nI_add, ← nI_add, ← i32_ss, Int32.sub_self, Int32.zero_add]
theorem msoon {τ s0 : pS} (ho : Ro τ) (fb : FB τ s0) (k : pS → Option (Int32 × pS)) : (fstN (pdE τ) 12 < 12 ∧ ∃ s, FB τ s ∧ lX5_soonest_13 (nI (td τ - Lo (dpO τ) (mayS τ) 12 0 0 / 10000)) k FU (nI 0) s0 = some (nI (fstN (pdE τ) 12), sI s 0 2 (nI (avN τ (td τ) + Lo (dpO τ) (mayS τ) (fstN (pdE τ) 12) 0 0 % 10000)))) ∨ (fstN (pdE τ) 12 = 12 ∧ ∃ s, FB τ s ∧ lX5_soonest_13 (nI (td τ - Lo (dpO τ) (mayS τ) 12 0 0 / 10000)) k FU (nI 0) s0 = k s) := by
  have o2 := ho.2.1
  obtain ⟨a1, a2, a3⟩ := fstN_low (pdE τ) 12
  refine whP (fun F (s : pS) v => lX5_soonest_13 (nI (td τ - Lo (dpO τ) (mayS τ) 12 0 0 / 10000)) k F v s) (n := 12) (by decide) (fun j s => FB τ s ∧ ∀ e, e < j → pdE τ e = false) (fun o => (fstN (pdE τ) 12 < 12 ∧ ∃ s, FB τ s ∧ o = some (nI (fstN (pdE τ) 12), sI s 0 2 (nI (avN τ (td τ) + Lo (dpO τ) (mayS τ) (fstN (pdE τ) 12) 0 0 % 10000)))) ∨ (fstN (pdE τ) 12 = 12 ∧ ∃ s, FB τ s ∧ o = k s)) s0 ⟨fb, fun e he => absurd he (Nat.not_lt_zero e)⟩ (fun F s hs => Or.inr ⟨?_, s, hs.1, ?_⟩) (fun F s j hj hs => ?_)
  · rcases Nat.lt_or_ge (fstN (pdE τ) 12) 12 with z | z
    · have := a3 z
      rw [hs.2 _ z] at this
      exact absurd this (by decide)
    · omega
  · show lX5_soonest_13 _ _ (F + 1) _ s = _
    rw [lX5_soonest_13.eq_2, if_pos (show (12 : Int32) ≤ nI 12 by decide)]
  · have os := FB_Ro ho hs.1
    obtain ⟨s', m1, m2, m3⟩ := layRounds_eq os (e := j) (by omega)
    have fb' := FB_tr hs.1 m2
    have T := TM_like hs.1 m3
    have okj : lossOk τ (Lo (dpO τ) (mayS τ) j 0 0) := Lo_ok ho _ (by omega)
    have c12 : pI s' 12 0 = nI (awN τ 0 (td τ)) - nI (Lo (dpO τ) (mayS τ) j 0 0) := (T 0 (Nat.le_refl _) (Nat.zero_le _) 0 (Nat.two_pow_pos _)).1
    have step : lX5_soonest_13 (nI (td τ - Lo (dpO τ) (mayS τ) 12 0 0 / 10000)) k (F + 1) (nI j) s = if pdE τ j = true then some (nI j, sI s' 0 2 (nI (avN τ (td τ) + Lo (dpO τ) (mayS τ) j 0 0 % 10000))) else lX5_soonest_13 (nI (td τ - Lo (dpO τ) (mayS τ) 12 0 0 / 10000)) k F (nI (j + 1)) s' := by
      rw [lX5_soonest_13.eq_2, if_neg (show ¬ (12 : Int32) ≤ nI j from nI_nge (b := 12) hj (by decide)), m1, pbind_some, paidMany_eq ho okj c12, obind_some, bestCost_eq ho okj c12, obind_some, tells_eq, pbind_some, nI_1]
      simp only [nI_eq (show td τ - Lo (dpO τ) (mayS τ) j 0 0 / 10000 < 2 ^ 31 by omega) (show td τ - Lo (dpO τ) (mayS τ) 12 0 0 / 10000 < 2 ^ 31 by omega)]
      unfold pdE
      simp only [decide_eq_true_eq]
    cases q : pdE τ j
    · left
      refine ⟨s', ?_, fb', fun e he => ?_⟩
      · show lX5_soonest_13 _ _ (F + 1) _ s = _
        rw [step, q]; rfl
      · by_cases z : e = j
        · rw [z]; exact q
        · exact hs.2 e (by omega)
    · right
      left
      have e : fstN (pdE τ) 12 = j := fstN_eq hj q hs.2
      rw [e]
      refine ⟨hj, s', fb', ?_⟩
      show lX5_soonest_13 _ _ (F + 1) _ s = _
      rw [step, q, if_pos rfl]
theorem o_soonest : op_soonest RR := by
  intro σ τ h
  unfold fX4_soonest fX5_soonest
  have ho := h.2.2.2.2.1
  obtain ⟨σ3, s1, s2, s3, s4, s5⟩ := solve_eq h
  obtain ⟨σ6, e1, e2, e3⟩ := xsoon s3 s4 s5
  have R6 : RR σ6 τ := RR_FX s3 (FX_only (vl_ge s3.2.2.2.1) e2 (by omega))
  obtain ⟨τ3, m1, m2, m3⟩ := layRounds_eq ho (e := 12) (by decide)
  have ok12 : lossOk τ (Lo (dpO τ) (mayS τ) 12 0 0) := Lo_ok ho _ (by decide)
  have c12 : pI τ3 12 0 = nI (awN τ 0 (td τ)) - nI (Lo (dpO τ) (mayS τ) 12 0 0) := (m3 0 (Nat.le_refl _) (Nat.zero_le _) 0 (Nat.two_pow_pos _)).1
  have lb := lossBefore_eq R6 (mayS_D τ) e3 (fun y hy => by rw [e2.1 45 _ (by decide)]; exact s5 12 (by omega) (by omega) y hy)
  have ll := LoO_lt ho (mayS τ) (fstN (pdE τ) 12) 0 0
  have X : (pbind (fX2_solve σ (pR σ 0 8)) fun _ σ3 => pbind (fX2_leastEnd σ3) fun r5 σ6 => if isV (pR σ6 0 8) then (fX3_allValues σ6 (pR σ6 0 8)).bind fun r9 => (fX2_lossBefore σ6).bind fun r11 => (fX2_interestOf r11).bind fun r13 => plet (sI σ6 0 9 (r9 + r13)) fun σ14 => some (r5, σ14) else none) = some (nI (fstN (pdE τ) 12), sI σ6 0 9 (nI (avN τ (td τ) + Lo (dpO τ) (mayS τ) (fstN (pdE τ) 12) 0 0 % 10000))) := by
    rw [s1, pbind_some, e1, pbind_some, hV R6, if_pos rfl, xvalues_eq R6, obind_some, lb, obind_some, interestOf_eq (by omega), obind_some, plet_eq, nI_add]
  rw [X, show (12 : Int32) = nI 12 from rfl, m1, pbind_some, paidMany_eq ho ok12 c12, obind_some]
  rcases msoon ho m2 (fun (σ16 : pS) => pbind (fX5_layRounds σ16 (nI 12)) fun _ σ19 => (fX5_bestCost σ19).bind fun r21 => pbind (fX5_tells σ19 r21 (nI 12)) fun r23 σ24 => some (r23, σ24)) with ⟨z, s, fb, e⟩ | ⟨z, s, fb, e⟩
  · exact ⟨_, _, _, rfl, e, RR_told (RR_FM R6 (FB_FM fb)) _⟩
  · obtain ⟨τ9, n1, n2, n3⟩ := layRounds_eq (FB_Ro ho fb) (e := 12) (by decide)
    have T := TM_like fb n3
    have c9 : pI τ9 12 0 = nI (awN τ 0 (td τ)) - nI (Lo (dpO τ) (mayS τ) 12 0 0) := (T 0 (Nat.le_refl _) (Nat.zero_le _) 0 (Nat.two_pow_pos _)).1
    refine ⟨_, _, sI τ9 0 2 (nI (avN τ (td τ) + Lo (dpO τ) (mayS τ) (fstN (pdE τ) 12) 0 0 % 10000)), rfl, e.trans ?_, RR_told (RR_FM R6 (FB_FM (FB_tr fb n2))) _⟩
    rw [n1, pbind_some, bestCost_eq ho ok12 c9, obind_some, z]
    rfl
