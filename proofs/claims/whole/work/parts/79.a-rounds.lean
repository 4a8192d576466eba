/-! PURE: the reference's rounds, all hours -/
def ecN (τ : pS) (x : Nat) : Nat → Nat
  | 0 => 0
  | n + 1 => ecN τ x n + if x.testBit n then 0 else vN τ n + 12 * iN τ n
theorem ecN_s (τ : pS) (x n : Nat) : ecN τ x (n + 1) = ecN τ x n + if x.testBit n then 0 else vN τ n + 12 * iN τ n := rfl
theorem ec_aw {τ : pS} (ho : Ro τ) (x : Nat) : ∀ n, n ≤ td τ → awN τ x n + ecN τ x n = 10000 * oc n x + 12 * rateT τ (opN τ x) n
  | 0, _ => rfl
  | n + 1, h => by
    have ih := ec_aw ho x n (by omega)
    have hv := (dN_ok ho (show n < td τ by omega)).2.2.1.2.2
    rw [awN_s, ecN_s, oc_s, rate_s, op_bit, decide_eq_true (show n < td τ by omega)]
    cases x.testBit n <;> simp <;> omega
theorem ec_sub {τ : pS} (ho : Ro τ) (x : Nat) : -nI (ecN τ x (td τ)) = nI (awN τ x (td τ)) - nI ((dpO τ).2.2 x) := by
  have e : (dpO τ).2.2 x = awN τ x (td τ) + ecN τ x (td τ) := (ec_aw ho x _ (Nat.le_refl _)).symm
  rw [e, ← nI_add, Int32.sub_eq_add_neg, Int32.neg_add, Int32.sub_eq_add_neg, ← Int32.add_assoc, Int32.add_right_neg, Int32.zero_add]
theorem lay_sum {τ : pS} (ho : Ro τ) {x : Nat} (hx : x < 2 ^ 31) (a : Int32) (k : Int32 → Option (Unit × pS)) : lX5_layRounds_15 τ a (nI x) k FU (nI 0) (nI 0) = k (nI (ecN τ x (td τ))) := by
  have o2 := ho.2.1
  refine whF (fun F (b : Int32) v => lX5_layRounds_15 τ a (nI x) k F b v) (n := td τ) (by omega) (fun j => nI (ecN τ x j)) _ (fun F => ?_) (fun F j hj => ?_)
  · show lX5_layRounds_15 τ _ _ _ (F + 1) _ _ = _
    rw [lX5_layRounds_15.eq_2, ho.2.2.2.1, if_pos (nI_le (Nat.le_refl _) (by omega))]
  · show lX5_layRounds_15 τ _ _ _ (F + 1) _ _ = _
    rw [lX5_layRounds_15.eq_2, ho.2.2.2.1, if_neg (nI_nge (by omega) (by omega)), has_eq hx (by omega), costOf_eq (by omega), show (12 : Int32) = nI 12 from rfl, costN ho hj]
    simp only [obind_some, plet_eq, nI_1, b2i_0]
    rw [ecN_s]
    cases q : x.testBit j
    · simp only [if_true, Bool.false_eq_true, if_false, nI_add]
    · simp only [Bool.true_eq_false, if_false, if_true, Nat.add_zero]
      rw [show ∀ x : Int32, x + 0 = x from fun x => Int32.add_zero x]
theorem put_at {s : pS} {i : Nat} {y : Int32} {z : Int64} (q : Nat) : (pI (sL (sI s 12 i y) 13 i z) 12 q = if q = i then y else pI s 12 q) ∧ (pL (sL (sI s 12 i y) 13 i z) 13 q = if q = i then z else pL s 13 q) := by
  constructor
  · rw [pI_sL, pI_sI]
    by_cases h : q = i
    · simp [h]
    · simp [h]
  · rw [pL_sL]
    by_cases h : q = i
    · simp [h]
    · simp [h, pL_sI]
theorem lay_init {τ : pS} (ho : Ro τ) {e : Nat} (he : e ≤ 12) (k : pS → Option (Unit × pS)) : ∃ τ', lX5_layRounds_2 (nI e) k FU (nI 0) τ = k τ' ∧ FB τ τ' ∧ TM τ τ' e e := by
  have o2 := ho.2.1
  have hp8 := pow8 o2
  have p0 := Nat.two_pow_pos (td τ)
  obtain ⟨τ', h1, h2, h3⟩ := whS (fun F s v => lX5_layRounds_2 (nI e) k F v s) (n := 2 ^ td τ) (by omega) (fun j s => FB τ s ∧ ∀ x, x < j → pI s 12 (256 * e + x) = nI (awN τ x (td τ)) - nI ((dpO τ).2.2 x) ∧ pL s 13 (256 * e + x) = lN 1) k τ ⟨FB_rf, fun d hd => absurd hd (Nat.not_lt_zero d)⟩ (fun F s hs => by
      have os := FB_Ro ho hs.1
      have ed : td s = td τ := LM_td (FB_LM hs.1)
      show lX5_layRounds_2 _ _ (F + 1) _ s = _
      rw [lX5_layRounds_2.eq_2, allD_eq os, ed, obind_some, if_pos (nI_lt (by omega) (by omega))]) (fun F s j hj hs => ⟨sL (sI s 12 (256 * e + j) (nI (awN τ j (td τ)) - nI ((dpO τ).2.2 j))) 13 (256 * e + j) (lN 1), by
      have os := FB_Ro ho hs.1
      have lm := FB_LM hs.1
      have ed : td s = td τ := LM_td lm
      show lX5_layRounds_2 _ _ (F + 1) _ s = _
      have ec := ec_sub os j
      rw [ed, LM_aw lm, LM_dpO lm] at ec
      have sm := lay_sum os (x := j) (by omega) (nI e) (fun (y10 : Int32) => (fX5_spot (nI e) (nI j)).bind fun r12 => if pin r12 3328 then plet (sI s 12 (r12).toNatClampNeg (-y10)) fun σ13 => (fX5_spot (nI e) (nI j)).bind fun r15 => if pin r15 3328 then plet (sL σ13 13 (r15).toNatClampNeg (1 : Int64)) fun σ16 => lX5_layRounds_2 (nI e) k F (nI j + (1 : Int32)) σ16 else none else none)
      rw [ed] at sm
      rw [lX5_layRounds_2.eq_2, allD_eq os, ed, obind_some, if_neg (nI_nlt (by omega) (by omega))]
      refine sm.trans ?_
      unfold fX5_spot
      simp only [n256, obind_some, pin_lit (show 256 * e + j < 3328 by omega) (by decide), if_true, plet_eq, nI_clamp (show 256 * e + j < 2 ^ 31 by omega), ec, nI_1]
      rfl, FB_tr hs.1 FB_put, fun x hx => by
        rw [(put_at _).1, (put_at _).2]
        by_cases q : x = j
        · rw [q, if_pos rfl, if_pos rfl]; exact ⟨rfl, rfl⟩
        · rw [if_neg (by omega), if_neg (by omega)]; exact hs.2 x (by omega)⟩)
  refine ⟨τ', h1, h2, fun t t1 t2 x hx => ?_⟩
  have : t = e := by omega
  subst this
  rw [Nat.sub_self]
  exact h3 x hx
theorem lay_hour {τ s0 : pS} (ho : Ro τ) (fb : FB τ s0) {e t : Nat} (ht : t < e) (he : e ≤ 12) (h14 : ∀ v, v < 2 ^ td τ → pI s0 14 v = b2i (mayB τ t v)) (hT : TM τ s0 e (t + 1)) (k : pS → Option (Unit × pS)) : ∃ τ', lX5_layRounds_98 (nI t) k FU (nI 0) s0 = k τ' ∧ FB τ τ' ∧ TM τ τ' e t := by
  have o2 := ho.2.1
  have hp8 := pow8 o2
  have p0 := Nat.two_pow_pos (td τ)
  obtain ⟨τ', h1, h2, h3, h4, h5⟩ := whS (fun F s v => lX5_layRounds_98 (nI t) k F v s) (n := 2 ^ td τ) (by omega) (fun j s => FB τ s ∧ (∀ v, v < 2 ^ td τ → pI s 14 v = b2i (mayB τ t v)) ∧ TM τ s e (t + 1) ∧ ∀ x, x < j → pI s 12 (256 * t + x) = nI (awN τ x (td τ)) - nI (Lo (dpO τ) (mayS τ) (e - t) t x) ∧ pL s 13 (256 * t + x) = lN (Wn (dpO τ) (mayS τ) (td τ) (e - t) t x)) k s0 ⟨fb, h14, hT, fun d hd => absurd hd (Nat.not_lt_zero d)⟩ (fun F s hs => by
      have os := FB_Ro ho hs.1
      have ed : td s = td τ := LM_td (FB_LM hs.1)
      show lX5_layRounds_98 _ _ (F + 1) _ s = _
      rw [lX5_layRounds_98.eq_2, allD_eq os, ed, obind_some, if_pos (nI_lt (by omega) (by omega))]) (fun F s j hj hs => ⟨sL (sI s 12 (256 * t + j) (nI (awN τ j (td τ)) - nI (Lo (dpO τ) (mayS τ) (e - t) t j))) 13 (256 * t + j) (lN (Wn (dpO τ) (mayS τ) (td τ) (e - t) t j)), by
      have os := FB_Ro ho hs.1
      have ed : td s = td τ := LM_td (FB_LM hs.1)
      show lX5_layRounds_98 _ _ (F + 1) _ s = _
      rw [lX5_layRounds_98.eq_2, allD_eq os, ed, obind_some, if_neg (nI_nlt (by omega) (by omega)), layBest_eq ho hs.1 hj ht he hs.2.1 hs.2.2.1, pbind_some, nI_1], FB_tr hs.1 FB_put, fun v hv => by
        rw [pI_sL, pI_sI_ne (by decide)]; exact hs.2.1 v hv, fun u u1 u2 x hx => by
        rw [(put_at _).1, (put_at _).2, if_neg (by omega), if_neg (by omega)]; exact hs.2.2.1 u u1 u2 x hx, fun x hx => by
        rw [(put_at _).1, (put_at _).2]
        by_cases q : x = j
        · rw [q, if_pos rfl, if_pos rfl]; exact ⟨rfl, rfl⟩
        · rw [if_neg (by omega), if_neg (by omega)]; exact hs.2.2.2 x (by omega)⟩)
  refine ⟨τ', h1, h2, fun u u1 u2 x hx => ?_⟩
  by_cases q : u = t
  · rw [q]; exact h5 x hx
  · exact h4 u (by omega) u2 x hx
theorem layRounds_eq {τ : pS} (ho : Ro τ) {e : Nat} (he : e ≤ 12) : ∃ τ', fX5_layRounds τ (nI e) = some ((), τ') ∧ FB τ τ' ∧ TM τ τ' e 0 := by
  unfold fX5_layRounds
  obtain ⟨s0, h1, h2, h3⟩ := lay_init ho he (fun (σ17 : pS) => plet (nI e - (1 : Int32)) fun x18 => lX5_layRounds_87 (fun (σ28 : pS) => some ((), σ28)) FU x18 σ17)
  rcases Nat.eq_zero_or_pos e with e0 | e0
  · subst e0
    refine ⟨s0, h1.trans ?_, h2, h3⟩
    rw [plet_eq, show nI 0 - (1 : Int32) = -1 by decide, show FU = 999 + 1 from rfl, lX5_layRounds_87.eq_2, if_pos (by decide)]
  · obtain ⟨τ', k1, k2, k3, -⟩ := whDN (fun F s v => lX5_layRounds_87 (fun (σ28 : pS) => some ((), σ28)) F v s) (fun j s => FB τ s ∧ TM τ s e j ∧ j ≤ e) (fun (σ28 : pS) => some ((), σ28)) (n := e - 1) (by omega) s0 ⟨h2, by rw [show e - 1 + 1 = e by omega]; exact h3, by omega⟩ (fun F s hs => by
      show lX5_layRounds_87 _ (F + 1) _ s = _
      rw [lX5_layRounds_87.eq_2, if_pos (by decide)]) (fun F s j hs => by
      obtain ⟨s1, s2, s3⟩ := hs
      have os := FB_Ro ho s1
      have lm := FB_LM s1
      have ed : td s = td τ := LM_td lm
      obtain ⟨s', m1, m2, m3⟩ := layMay_eq os (t := j) (by omega)
      have f' := FB_tr s1 (FB_only m2 (Or.inr rfl))
      obtain ⟨s'', b1, b2, b3⟩ := lay_hour ho f' (e := e) (t := j) (by omega) he (fun v hv => by
        rw [m3 v (by rw [ed]; exact hv)]
        unfold mayB
        rw [LM_may lm, LM_fit lm, ed]) (fun u u1 u2 x hx => by
        rw [m2.1 12 _ (by decide), m2.2.1]
        exact s2 u u1 u2 x hx) (fun (σ27 : pS) => lX5_layRounds_87 (fun (σ28 : pS) => some ((), σ28)) F (nI j + (-1 : Int32)) σ27)
      refine ⟨s'', ?_, b2, b3, by omega⟩
      show lX5_layRounds_87 _ (F + 1) _ s = _
      rw [lX5_layRounds_87.eq_2, if_neg (nI_pos (by omega)), m1, pbind_some]
      exact b1)
    refine ⟨τ', h1.trans ?_, k2, k3⟩
    rw [plet_eq, show (1 : Int32) = nI 1 from rfl, pk_sub (by omega)]
    exact k1
