/-! PURE: what a loss says; the round that is traced -/
def avN (τ : pS) : Nat → Nat
  | 0 => 0
  | n + 1 => avN τ n + vN τ n
theorem avN_s (τ : pS) (n : Nat) : avN τ (n + 1) = avN τ n + vN τ n := rfl
theorem av_aw {τ : pS} (ho : Ro τ) : ∀ n, n ≤ td τ → awN τ 0 n + avN τ n = 10000 * n ∧ avN τ n ≤ 99 * n
  | 0, _ => ⟨rfl, Nat.le_refl _⟩
  | n + 1, h => by
    have ih := av_aw ho n (by omega)
    have hv := (dN_ok ho (show n < td τ by omega)).2.2.1.2.2
    rw [awN_s, avN_s, Nat.zero_testBit]
    simp only [Bool.false_eq_true, if_false]
    omega
theorem xvalues_eq {σ τ : pS} (h : RR σ τ) : fX3_allValues σ (pR σ 0 8) = some (nI (avN τ (td τ))) := by
  have o2 := hD8 h
  unfold fX3_allValues
  refine whF (fun F (a : Int32) v => lX3_allValues_4 σ (pR σ 0 8) (fun y3 => some y3) F a v) (n := td τ) (by omega) (fun j => nI (avN τ j)) _ (fun F => ?_) (fun F j hj => ?_)
  · show lX3_allValues_4 σ _ _ (F + 1) _ _ = _
    rw [lX3_allValues_4.eq_2, hV h, hD h, if_pos rfl, if_pos (nI_le (Nat.le_refl _) (by omega))]
  · show lX3_allValues_4 σ _ _ (F + 1) _ _ = _
    rw [lX3_allValues_4.eq_2, hV h, hD h, if_pos rfl, if_neg (nI_nge (by omega) (by omega)), pin_lit (show j < 8 by omega) (by decide), nI_clamp (show j < 2 ^ 31 by omega), hF2 h hj]
    simp only [if_true, plet_eq, nI_1, nI_add, avN_s]
def lossOk (τ : pS) (L : Nat) : Prop := ∃ m i, L = 10000 * m + i ∧ m ≤ td τ ∧ i ≤ 108 * td τ
theorem Lo_ok {τ : pS} (ho : Ro τ) (mk : Nat → Nat) {j : Nat} (hj : j ≤ 12) : lossOk τ (Lo (dpO τ) mk j 0 0) := by
  obtain ⟨m, i, h1, h2, h3⟩ := Lo_form (dpO_gd τ) (mk := mk) (dpO_R ho) (dpO_T ho) j 0 0 (by omega)
  have := oc_le (td τ) 0
  exact ⟨m, i, h1, by omega, by omega⟩
theorem sub_pos {a b : Nat} (ha : a < 2 ^ 30) (hb : b < 2 ^ 30) : ((0 : Int32) < nI a - nI b) = (b < a) := by
  rw [Int32.lt_iff_toInt_lt, pk_sub_toInt ha hb, show (0 : Int32).toInt = 0 by decide]
  exact propext ⟨fun h => by omega, fun h => by omega⟩
theorem paidMany_eq {τ s : pS} (ho : Ro τ) {L : Nat} (hL : lossOk τ L) (h : pI s 12 0 = nI (awN τ 0 (td τ)) - nI L) : fX5_paidMany s = some (nI (td τ - L / 10000)) := by
  obtain ⟨m, i, e, h1, h2⟩ := hL
  have o2 := ho.2.1
  obtain ⟨a1, a2⟩ := av_aw ho _ (Nat.le_refl _)
  unfold fX5_paidMany
  rw [show pin (0 : Int32) 3328 = true by decide, show (0 : Int32).toNatClampNeg = 0 by decide, h, if_pos rfl, plet_eq]
  have sp := sub_pos (a := awN τ 0 (td τ)) (b := L) (by omega) (by omega)
  by_cases q : L < awN τ 0 (td τ)
  · rw [if_pos (sp.mpr q), pk_sub (by omega), show (10000 : Int32) = nI 10000 from rfl, nI_add, show (1 : Int32) = nI 1 from rfl, pk_sub (by omega), pk_div (by omega) (by decide) (by decide)]
    congr 2
    omega
  · rw [if_neg (fun z => q (sp.mp z)), show (0 : Int32) = nI 0 from rfl]
    congr 2
    omega
theorem bestCost_eq {τ s : pS} (ho : Ro τ) {L : Nat} (hL : lossOk τ L) (h : pI s 12 0 = nI (awN τ 0 (td τ)) - nI L) : fX5_bestCost s = some (nI (avN τ (td τ) + L % 10000)) := by
  unfold fX5_bestCost
  rw [paidMany_eq ho hL h, obind_some, show pin (0 : Int32) 3328 = true by decide, show (0 : Int32).toNatClampNeg = 0 by decide, h, if_pos rfl]
  obtain ⟨m, i, e, h1, h2⟩ := hL
  have o2 := ho.2.1
  obtain ⟨a1, a2⟩ := av_aw ho _ (Nat.le_refl _)
  congr 1
  rw [show (10000 : Int32) = nI 10000 from rfl, pk_mul]
  apply Int32.toInt_inj.mp
  rw [nI_toInt (by omega)]
  have e2 : nI (10000 * (td τ - L / 10000)) - (nI (awN τ 0 (td τ)) - nI L) = nI (10000 * (td τ - L / 10000) + L) - nI (awN τ 0 (td τ)) := by
    rw [← nI_add, Int32.sub_eq_add_neg, Int32.neg_sub, Int32.sub_eq_add_neg, Int32.sub_eq_add_neg, ← Int32.add_assoc]
  rw [e2, pk_sub_toInt (by omega) (by omega)]
  omega
theorem paidOf_eq {σ τ : pS} (h : RR σ τ) {L : Nat} (hL : lossOk τ L) : fX2_paidOf σ (nI L) = some (nI (td τ - L / 10000)) := by
  obtain ⟨m, i, e, h1, h2⟩ := hL
  have o2 := hD8 h
  unfold fX2_paidOf
  rw [debtsX h, show (10000 : Int32) = nI 10000 from rfl, pk_div (by omega) (by decide) (by decide), pk_sub (by omega)]
theorem interestOf_eq {L : Nat} (h : L < 2 ^ 31) : fX2_interestOf (nI L) = some (nI (L % 10000)) := by
  unfold fX2_interestOf
  rw [show (10000 : Int32) = nI 10000 from rfl, pk_rem h (by decide) (by decide)]
theorem leastLoss_eq {σ τ : pS} {mk : Nat → Nat} (hl : LTX σ τ mk 0) : fX2_leastLoss σ = some (nI (Lo (dpO τ) mk 12 0 0)) := by
  unfold fX2_leastLoss
  rw [show pin (0 : Int32) 13 = true by decide, show pin (0 : Int32) 256 = true by decide, show (0 : Int32).toNatClampNeg = 0 by decide, hl 0 (Nat.le_refl _) (by decide) 0 (Nat.two_pow_pos _)]
  rfl
/-! the least set -/
def fstN (f : Nat → Bool) : Nat → Nat
  | 0 => 0
  | n + 1 => if fstN f n < n then fstN f n else if f n then n else n + 1
theorem fstN_s (f : Nat → Bool) (n : Nat) : fstN f (n + 1) = if fstN f n < n then fstN f n else if f n then n else n + 1 := rfl
theorem fstN_low (f : Nat → Bool) : ∀ n, fstN f n ≤ n ∧ (∀ u, u < fstN f n → f u = false) ∧ (fstN f n < n → f (fstN f n) = true)
  | 0 => ⟨Nat.le_refl _, fun u hu => absurd hu (Nat.not_lt_zero u), fun h => absurd h (Nat.lt_irrefl 0)⟩
  | n + 1 => by
    obtain ⟨h1, h2, h3⟩ := fstN_low f n
    rw [fstN_s]
    by_cases q : fstN f n < n
    · rw [if_pos q]; exact ⟨by omega, h2, fun _ => h3 q⟩
    · rw [if_neg q]
      have e : fstN f n = n := by omega
      rw [e] at h2
      cases z : f n
      · rw [if_neg (by decide)]
        refine ⟨Nat.le_refl _, fun u hu => ?_, fun h => absurd h (Nat.lt_irrefl _)⟩
        by_cases y : u = n
        · rw [y]; exact z
        · exact h2 u (by omega)
      · rw [if_pos rfl]; exact ⟨by omega, h2, fun _ => z⟩
theorem fstN_eq {f : Nat → Bool} {n v : Nat} (hv : v < n) (h1 : f v = true) (h2 : ∀ u, u < v → f u = false) : fstN f n = v := by
  obtain ⟨a1, a2, a3⟩ := fstN_low f n
  rcases Nat.lt_trichotomy (fstN f n) v with h | h | h
  · have := a3 (by omega)
    rw [h2 _ h] at this
    exact absurd this (by decide)
  · exact h
  · rw [a2 v h] at h1
    exact absurd h1 (by decide)
def lsN (P : dpS) (mk : Nat → Nat) (N j t s : Nat) : Nat := fstN (optB P mk j t s) (2 ^ N)
theorem lsN_ok {P : dpS} (hP : gdP P) {mk : Nat → Nat} {N : Nat} (hm : ∀ x, mk x < 2 ^ N) (j t s : Nat) : lsN P mk N j t s < 2 ^ N ∧ optB P mk j t s (lsN P mk N j t s) = true ∧ ∀ u, u < lsN P mk N j t s → optB P mk j t s u = false := by
  obtain ⟨v, hv⟩ := opt_ex hP mk j t s
  have hl : v < 2 ^ N := Nat.lt_of_le_of_lt (and_le (opt_ok hv).1.1) (hm t)
  obtain ⟨a1, a2, a3⟩ := fstN_low (optB P mk j t s) (2 ^ N)
  have q : fstN (optB P mk j t s) (2 ^ N) < 2 ^ N := by
    rcases Nat.lt_or_ge (fstN (optB P mk j t s) (2 ^ N)) (2 ^ N) with z | z
    · exact z
    · rw [a2 v (by omega)] at hv
      exact absurd hv (by decide)
  exact ⟨q, a3 q, a2⟩
theorem dfold_last (g : Nat → Bool) (m : Nat) : ∀ n a, (dfold (fun v a => if g v then v else a) m n a = a ∧ ∀ v, 0 < v → v ≤ n → v &&& m = v → g v = false) ∨ (0 < dfold (fun v a => if g v then v else a) m n a ∧ dfold (fun v a => if g v then v else a) m n a ≤ n ∧ dfold (fun v a => if g v then v else a) m n a &&& m = dfold (fun v a => if g v then v else a) m n a ∧ g (dfold (fun v a => if g v then v else a) m n a) = true ∧ ∀ v, 0 < v → v < dfold (fun v a => if g v then v else a) m n a → v &&& m = v → g v = false)
  | 0, a => Or.inl ⟨rfl, fun v h1 h2 => by omega⟩
  | n + 1, a => by
    rw [dfold_s]
    by_cases q : (n + 1) &&& m = n + 1 ∧ g (n + 1) = true
    · rw [if_pos q.1, if_pos q.2]
      rcases dfold_last g m n (n + 1) with ⟨h1, h2⟩ | ⟨h1, h2, h3, h4, h5⟩
      · rw [h1]
        exact Or.inr ⟨by omega, Nat.le_refl _, q.1, q.2, fun v v1 v2 => h2 v v1 (by omega)⟩
      · exact Or.inr ⟨h1, by omega, h3, h4, h5⟩
    · have e : (if (n + 1) &&& m = n + 1 then (if g (n + 1) then n + 1 else a) else a) = a := by
        by_cases z : (n + 1) &&& m = n + 1
        · rw [if_pos z, if_neg (fun y => q ⟨z, y⟩)]
        · rw [if_neg z]
      rw [e]
      rcases dfold_last g m n a with ⟨h1, h2⟩ | ⟨h1, h2, h3, h4, h5⟩
      · refine Or.inl ⟨h1, fun v v1 v2 v3 => ?_⟩
        by_cases z : v = n + 1
        · subst z
          cases y : g (n + 1)
          · rfl
          · exact absurd ⟨v3, y⟩ q
        · exact h2 v v1 (by omega) v3
      · exact Or.inr ⟨h1, by omega, h3, h4, h5⟩
theorem leastSet_eq {σ τ : pS} (h : RR σ τ) {mk : Nat → Nat} (hm : ∀ x, mk x < 2 ^ td τ) (hp : payX σ mk) (hl : LTX σ τ mk 0) {t s : Nat} (ht : t < 12) (hs : s < 2 ^ td τ) : fX2_leastSet σ (nI t) (nI s) = some (nI (lsN (dpO τ) mk (td τ) (11 - t) t s)) := by
  have o2 := hD8 h
  have hp8 := pow8 o2
  have p0 := Nat.two_pow_pos (td τ)
  have gd := dpO_gd τ
  have dl := diff_le (mk t) s
  have mt := hm t
  have ho := h.2.2.2.2.1
  have e1 := hl (t + 1) (by omega) (by omega) s hs
  have e0 := hl t (by omega) (by omega) s hs
  rw [show 12 - (t + 1) = 11 - t by omega] at e1
  rw [show 12 - t = 11 - t + 1 by omega] at e0
  have hn : ∀ s, s < 2 ^ td τ → pI σ (33 + (t + 1)) s = nI (Lo (dpO τ) mk (11 - t) (t + 1) s) := fun s hs => by
    have := hl (t + 1) (by omega) (by omega) s hs
    rw [show 12 - (t + 1) = 11 - t by omega] at this
    exact this
  have l1 := LoO_lt ho mk (11 - t) (t + 1) s
  have l0 := LoO_lt ho mk (11 - t + 1) t s
  unfold fX2_leastSet
  rw [nI_1, pin_lit (show t + 1 < 13 by omega) (by decide), pin_lit (show s < 256 by omega) (by decide), pin_lit (show t < 13 by omega) (by decide), pin_lit ht (by decide), nI_clamp (show t + 1 < 2 ^ 31 by omega), nI_clamp (show s < 2 ^ 31 by omega), nI_clamp (show t < 2 ^ 31 by omega), e1, e0, hp t ht, q_not]
  simp only [if_true, plet_eq, nI_eq (show Lo (dpO τ) mk (11 - t) (t + 1) s < 2 ^ 31 by omega) (show Lo (dpO τ) mk (11 - t + 1) t s < 2 ^ 31 by omega)]
  have op0 : optB (dpO τ) mk (11 - t) t s 0 = decide (Lo (dpO τ) mk (11 - t) (t + 1) s = Lo (dpO τ) mk (11 - t + 1) t s) := by
    unfold optB
    rw [okB_iff.mpr (okN_0 gd _ _), dpc_0 gd, Bool.true_and]
  by_cases q : Lo (dpO τ) mk (11 - t) (t + 1) s = Lo (dpO τ) mk (11 - t + 1) t s
  · rw [if_pos q, show (0 : Int32) = nI 0 from rfl]
    congr 2
    exact (fstN_eq p0 (by rw [op0, decide_eq_true q]) (fun u hu => absurd hu (Nat.not_lt_zero u))).symm
  · rw [if_neg q]
    have run := whFold (fun F (a : Nat) v => lX2_leastSet_40 σ (nI t) (nI s) (nI (diff (mk t) s)) (fun y10 => some y10) F (nI a) v) (m := diff (mk t) s) (by omega) (fun a => a < 2 ^ td τ) (fun v a => if (dpO τ).1 v && decide (dpc (dpO τ) t (Lo (dpO τ) mk (11 - t) (t + 1)) s v = Lo (dpO τ) mk (11 - t + 1) t s) then v else a) (fun a => some (nI a)) (fun F a _ => by
        show lX2_leastSet_40 σ _ _ _ _ (F + 1) _ _ = _
        rw [lX2_leastSet_40.eq_2, if_pos (by decide)]) (fun F a v h0 hv hl' ha => ⟨by
        show lX2_leastSet_40 σ _ _ _ _ (F + 1) _ _ = lX2_leastSet_40 σ _ _ _ _ F _ _
        have hv' : v < 2 ^ td τ := by omega
        have cl : dpc (dpO τ) t (Lo (dpO τ) mk (11 - t) (t + 1)) s v < 2 ^ 30 := by
          have r2 : t * (dpO τ).2.1 v ≤ 12 * 72 := Nat.mul_le_mul (by omega) (rateO_lt ho v)
          have := LoO_lt ho mk (11 - t) (t + 1) (s ||| v)
          unfold dpc
          omega
        rw [lX2_leastSet_40.eq_2, if_neg (nI_n0 h0 (by omega)), pin_lit (show v < 256 by omega) (by decide), nI_clamp (show v < 2 ^ 31 by omega), fitX h hv', lossBy_eq h ht hs hv' hn, pin_lit (show t < 13 by omega) (by decide), pin_lit (show s < 256 by omega) (by decide), nI_clamp (show t < 2 ^ 31 by omega), nI_clamp (show s < 2 ^ 31 by omega), e0]
        simp only [if_true, plet_eq, obind_some, sub_pred h0, b2i_0, nI_eq (show dpc (dpO τ) t (Lo (dpO τ) mk (11 - t) (t + 1)) s v < 2 ^ 31 by omega) (show Lo (dpO τ) mk (11 - t + 1) t s < 2 ^ 31 by omega)]
        cases (dpO τ).1 v
        · simp
        · by_cases z : dpc (dpO τ) t (Lo (dpO τ) mk (11 - t) (t + 1)) s v = Lo (dpO τ) mk (11 - t + 1) t s
          · simp [z]
          · simp [z], by
        split
        · omega
        · exact ha⟩) 0 p0
    refine run.trans ?_
    congr 2
    have opv : ∀ v, v &&& diff (mk t) s = v → optB (dpO τ) mk (11 - t) t s v = ((dpO τ).1 v && decide (dpc (dpO τ) t (Lo (dpO τ) mk (11 - t) (t + 1)) s v = Lo (dpO τ) mk (11 - t + 1) t s)) := fun v hv => by
      have z := sub_diff.mp hv
      unfold optB okB
      rw [decide_eq_true z.1, decide_eq_true z.2, Bool.true_and, Bool.true_and]
    obtain ⟨w1, w2, w3⟩ := lsN_ok gd hm (11 - t) t s
    have wok := opt_ok w2
    have wsub : lsN (dpO τ) mk (td τ) (11 - t) t s &&& diff (mk t) s = lsN (dpO τ) mk (td τ) (11 - t) t s := sub_diff.mpr ⟨wok.1.1, wok.1.2.1⟩
    have wp : 0 < lsN (dpO τ) mk (td τ) (11 - t) t s := by
      rcases Nat.eq_zero_or_pos (lsN (dpO τ) mk (td τ) (11 - t) t s) with z | z
      · rw [z, op0, decide_eq_false q] at w2
        exact absurd w2 (by decide)
      · exact z
    rcases dfold_last (fun v => (dpO τ).1 v && decide (dpc (dpO τ) t (Lo (dpO τ) mk (11 - t) (t + 1)) s v = Lo (dpO τ) mk (11 - t + 1) t s)) (diff (mk t) s) (diff (mk t) s) 0 with ⟨h1, h2⟩ | ⟨h1, h2, h3, h4, h5⟩
    · have := h2 _ wp (and_le wsub) wsub
      rw [← opv _ wsub, w2] at this
      exact absurd this (by decide)
    · have o1 := (opv _ h3).trans h4
      refine (fstN_eq (by omega) o1 (fun u hu => ?_)).symm
      rcases Nat.eq_zero_or_pos u with z | z
      · rw [z, op0, decide_eq_false q]
      · cases y : optB (dpO τ) mk (11 - t) t s u
        · rfl
        · have yo := opt_ok y
          have ys := sub_diff.mpr ⟨yo.1.1, yo.1.2.1⟩
          have := h5 u z hu ys
          rw [← opv u ys, y] at this
          exact absurd this (by decide)
