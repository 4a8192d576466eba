/-! PURE: the round that is traced, on both sides; best -/
def dnN (P : dpS) (mk : Nat → Nat) (N : Nat) : Nat → Nat
  | 0 => 0
  | t + 1 => dnN P mk N t ||| lsN P mk N (11 - t) t (dnN P mk N t)
theorem dnN_s (P : dpS) (mk : Nat → Nat) (N t : Nat) : dnN P mk N (t + 1) = dnN P mk N t ||| lsN P mk N (11 - t) t (dnN P mk N t) := rfl
def rdN (P : dpS) (mk : Nat → Nat) (N : Nat) : Nat → Nat → Int32
  | 0, _ => -9
  | t + 1, d => if (lsN P mk N (11 - t) t (dnN P mk N t)).testBit d then nI t else rdN P mk N t d
theorem rdN_s (P : dpS) (mk : Nat → Nat) (N t d : Nat) : rdN P mk N (t + 1) d = if (lsN P mk N (11 - t) t (dnN P mk N t)).testBit d then nI t else rdN P mk N t d := rfl
theorem dnN_lt {P : dpS} (hP : gdP P) {mk : Nat → Nat} {N : Nat} (hm : ∀ x, mk x < 2 ^ N) : ∀ t, dnN P mk N t < 2 ^ N
  | 0 => Nat.two_pow_pos N
  | t + 1 => or_lt (dnN_lt hP hm t) (lsN_ok hP hm _ _ _).1
theorem xmark {σ τ : pS} (h : RR σ τ) {now : Nat} (hn : now < 2 ^ 31) (t : Nat) (a : Int32) (k : pS → Option (Unit × pS)) : ∃ σ', lX2_trace_29 a (nI t) (nI now) k FU (nI 0) σ = k σ' ∧ only σ σ' 18 ∧ ∀ d, d < td τ → pI σ' 18 d = if now.testBit d then nI t else pI σ 18 d := by
  have o2 := hD8 h
  obtain ⟨σ', h1, h2, h3, h4⟩ := whS (fun F s v => lX2_trace_29 a (nI t) (nI now) k F v s) (n := td τ) (by omega) (fun j s => only σ s 18 ∧ (∀ d, d < j → pI s 18 d = if now.testBit d then nI t else pI σ 18 d) ∧ ∀ d, j ≤ d → pI s 18 d = pI σ 18 d) k σ ⟨only_rf, fun d hd => absurd hd (Nat.not_lt_zero d), fun _ _ => rfl⟩ (fun F s hs => by
      show lX2_trace_29 _ _ _ _ (F + 1) _ s = _
      rw [lX2_trace_29.eq_2, hs.1.1 3 0 (by decide), debtsX h, if_pos (nI_le (Nat.le_refl _) (by omega))]) (fun F s j hj hs => by
      have e : lX2_trace_29 a (nI t) (nI now) k (F + 1) (nI j) s = if now.testBit j = true then lX2_trace_29 a (nI t) (nI now) k F (nI (j + 1)) (sI s 18 j (nI t)) else lX2_trace_29 a (nI t) (nI now) k F (nI (j + 1)) s := by
        rw [lX2_trace_29.eq_2, hs.1.1 3 0 (by decide), debtsX h, if_neg (nI_nge (by omega) (by omega)), q_bit hn (by omega), pin_lit (show j < 8 by omega) (by decide), nI_clamp (show j < 2 ^ 31 by omega)]
        simp only [b2i_1, if_true, plet_eq, nI_1]
      cases q : now.testBit j
      · refine ⟨s, ?_, hs.1, fun d hd => ?_, fun d hd => hs.2.2 d (by omega)⟩
        · show lX2_trace_29 _ _ _ _ (F + 1) _ s = _
          rw [e, q]; rfl
        · by_cases z : d = j
          · rw [z, q, hs.2.2 j (Nat.le_refl _)]; rfl
          · exact hs.2.1 d (by omega)
      · refine ⟨sI s 18 j (nI t), ?_, only_tr hs.1 only_s, fun d hd => ?_, fun d hd => ?_⟩
        · show lX2_trace_29 _ _ _ _ (F + 1) _ s = _
          rw [e, q, if_pos rfl]
        · by_cases z : d = j
          · rw [z, pI_sI_eq, q]; rfl
          · rw [pI_sI_nj z]; exact hs.2.1 d (by omega)
        · rw [pI_sI_nj (by omega)]; exact hs.2.2 d (by omega))
  exact ⟨σ', h1, h2, h3⟩
theorem trace_eq {σ τ : pS} (h : RR σ τ) {mk : Nat → Nat} (hm : ∀ x, mk x < 2 ^ td τ) (hp : payX σ mk) (hl : LTX σ τ mk 0) : ∃ σ', fX2_trace σ = some ((), σ') ∧ only σ σ' 18 ∧ ∀ d, d < td τ → pI σ' 18 d = rdN (dpO τ) mk (td τ) 12 d := by
  have o2 := hD8 h
  have hp8 := pow8 o2
  have hv := vl_ge h.2.2.2.1
  have gd := dpO_gd τ
  unfold fX2_trace
  obtain ⟨σ1, f1, f2, f3⟩ := xfillI (e := 18) (n := 8) (by decide) (by decide) (by decide) (-9) σ
  rw [f1, pbind_some]
  refine whP (fun F (a : Int32 × pS) v => lX2_trace_13 (fun σ9 => some ((), σ9)) F a.1 v a.2) (n := 12) (by decide) (fun j a => a.1 = nI (dnN (dpO τ) mk (td τ) j) ∧ only σ a.2 18 ∧ ∀ d, d < td τ → pI a.2 18 d = rdN (dpO τ) mk (td τ) j d) (fun o => ∃ σ', o = some ((), σ') ∧ only σ σ' 18 ∧ ∀ d, d < td τ → pI σ' 18 d = rdN (dpO τ) mk (td τ) 12 d) ((0 : Int32), σ1) ⟨rfl, f3, fun d hd => f2 d (by omega)⟩ (fun F a ha => ⟨a.2, ?_, ha.2⟩) (fun F a j hj ha => Or.inl ?_)
  · show lX2_trace_13 _ (F + 1) _ _ _ = _
    rw [lX2_trace_13.eq_2, if_pos (show (12 : Int32) ≤ nI 12 by decide)]
  · obtain ⟨d, s⟩ := a
    obtain ⟨rfl, s1, s2⟩ := ha
    have hR : RR s τ := RR_FX h (FX_only hv s1 (by omega))
    have dl := dnN_lt gd hm j
    have ll := lsN_ok gd hm (11 - j) j (dnN (dpO τ) mk (td τ) j)
    have ls := leastSet_eq hR hm (fun x hx => by rw [s1.1 14 x (by omega)]; exact hp x hx) (fun x x1 x2 y hy => by rw [s1.1 _ _ (by omega)]; exact hl x x1 x2 y hy) hj dl
    obtain ⟨s', k1, k2, k3⟩ := xmark hR (now := lsN (dpO τ) mk (td τ) (11 - j) j (dnN (dpO τ) mk (td τ) j)) (by omega) j (nI (dnN (dpO τ) mk (td τ) j)) (fun (σ7 : pS) => plet (nI (dnN (dpO τ) mk (td τ) j) ||| nI (lsN (dpO τ) mk (td τ) (11 - j) j (dnN (dpO τ) mk (td τ) j))) fun x8 => lX2_trace_13 (fun σ9 => some ((), σ9)) F x8 (nI j + (1 : Int32)) σ7)
    refine ⟨(nI (dnN (dpO τ) mk (td τ) (j + 1)), s'), ?_, rfl, only_tr s1 k2, fun d hd => ?_⟩
    · show lX2_trace_13 _ (F + 1) _ _ _ = lX2_trace_13 _ F _ _ _
      rw [lX2_trace_13.eq_2, if_neg (show ¬ (12 : Int32) ≤ nI j from nI_nge (b := 12) hj (by decide)), ls, obind_some]
      refine k1.trans ?_
      rw [plet_eq, q_or, nI_1, dnN_s]
    · rw [k3 d hd, rdN_s, s2 d hd]
/-! the reference's -/
def FR (τ τ' : pS) : Prop := (∀ e i, e ≠ 11 → e ≠ 12 → e ≠ 14 → pI τ' e i = pI τ e i) ∧ (∀ e i, e ≠ 13 → pL τ' e i = pL τ e i) ∧ ∀ e i, pR τ' e i = pR τ e i
theorem FB_FR {τ τ' : pS} (h : FB τ τ') : FR τ τ' := ⟨fun e i _ q1 q2 => h.1 e i q1 q2, h.2.1, h.2.2⟩
theorem FR_tr {a b c : pS} (h1 : FR a b) (h2 : FR b c) : FR a c := ⟨fun e i q0 q1 q2 => (h2.1 e i q0 q1 q2).trans (h1.1 e i q0 q1 q2), fun e i q => (h2.2.1 e i q).trans (h1.2.1 e i q), fun e i => (h2.2.2 e i).trans (h1.2.2 e i)⟩
theorem FR_only {τ τ' : pS} {e : Nat} (h : only τ τ' e) (he : e = 11 ∨ e = 12 ∨ e = 14) : FR τ τ' := ⟨fun e' i q0 q1 q2 => h.1 e' i (by omega), fun e' i _ => h.2.1 e' i, h.2.2⟩
theorem FR_FM {τ τ' : pS} (h : FR τ τ') : FM τ τ' := ⟨fun e i q1 q2 q3 q4 q5 q6 q7 q8 => h.1 e i q5 q6 q7, fun i _ => h.1 0 i (by decide) (by decide) (by decide), h.2.1 0 3 (by decide), h.2.1 0 4 (by decide)⟩
theorem FR_LM {τ τ' : pS} (h : FR τ τ') : LM τ τ' := (FM_LY (FR_FM h)).2.2
theorem FR_Ro {τ τ' : pS} (ho : Ro τ) (h : FR τ τ') : Ro τ' := Ro_frame ho (FR_LM h)
theorem mround0 {τ : pS} (ho : Ro τ) (k : pS → Option (Unit × pS)) : ∃ τ', lX5_layRound_8 k FU (nI 0) τ = k τ' ∧ only τ τ' 11 ∧ ∀ d, d < td τ → pI τ' 11 d = -9 := by
  have o2 := ho.2.1
  exact whS (fun F s v => lX5_layRound_8 k F v s) (n := td τ) (by omega) (fun j s => only τ s 11 ∧ ∀ d, d < j → pI s 11 d = -9) k τ ⟨only_rf, fun d hd => absurd hd (Nat.not_lt_zero d)⟩ (fun F s hs => by
      show lX5_layRound_8 _ (F + 1) _ s = _
      rw [lX5_layRound_8.eq_2, hs.1.1 0 12 (by decide), ho.2.2.2.1, if_pos (nI_le (Nat.le_refl _) (by omega))]) (fun F s j hj hs => ⟨sI s 11 j (-9), by
      show lX5_layRound_8 _ (F + 1) _ s = _
      rw [lX5_layRound_8.eq_2, hs.1.1 0 12 (by decide), ho.2.2.2.1, if_neg (nI_nge (by omega) (by omega)), pin_lit (show j < 8 by omega) (by decide), nI_clamp (show j < 2 ^ 31 by omega)]
      simp only [if_true, plet_eq, nI_1], only_tr hs.1 only_s, fun d hd => by
        by_cases q : d = j
        · rw [q, pI_sI_eq]
        · rw [pI_sI_nj q]; exact hs.2 d (by omega)⟩)
theorem mmark {τ : pS} (ho : Ro τ) {now : Nat} (hn : now < 2 ^ 31) (t : Nat) (a : Int32) (k : pS → Option (Unit × pS)) : ∃ τ', lX5_layRound_105 a (nI t) (nI now) k FU (nI 0) τ = k τ' ∧ only τ τ' 11 ∧ ∀ d, d < td τ → pI τ' 11 d = if now.testBit d then nI t else pI τ 11 d := by
  have o2 := ho.2.1
  obtain ⟨τ', h1, h2, h3, h4⟩ := whS (fun F s v => lX5_layRound_105 a (nI t) (nI now) k F v s) (n := td τ) (by omega) (fun j s => only τ s 11 ∧ (∀ d, d < j → pI s 11 d = if now.testBit d then nI t else pI τ 11 d) ∧ ∀ d, j ≤ d → pI s 11 d = pI τ 11 d) k τ ⟨only_rf, fun d hd => absurd hd (Nat.not_lt_zero d), fun _ _ => rfl⟩ (fun F s hs => by
      show lX5_layRound_105 _ _ _ _ (F + 1) _ s = _
      rw [lX5_layRound_105.eq_2, hs.1.1 0 12 (by decide), ho.2.2.2.1, if_pos (nI_le (Nat.le_refl _) (by omega))]) (fun F s j hj hs => ⟨sI s 11 j (if now.testBit j then nI t else pI τ 11 j), by
      show lX5_layRound_105 _ _ _ _ (F + 1) _ s = _
      rw [lX5_layRound_105.eq_2, hs.1.1 0 12 (by decide), ho.2.2.2.1, if_neg (nI_nge (by omega) (by omega)), has_eq hn (by omega), pin_lit (show j < 8 by omega) (by decide), nI_clamp (show j < 2 ^ 31 by omega), hs.2.2 j (Nat.le_refl _)]
      simp only [obind_some, b2i_0, if_true, plet_eq, nI_1]
      cases now.testBit j <;> rfl, only_tr hs.1 only_s, fun d hd => by
        by_cases q : d = j
        · rw [q, pI_sI_eq]
        · rw [pI_sI_nj q]; exact hs.2.1 d (by omega), fun d hd => by
        rw [pI_sI_nj (by omega)]; exact hs.2.2 d (by omega)⟩)
  exact ⟨τ', h1, h2, h3⟩
theorem msearch {τ s : pS} (ho : Ro τ) (fr : FR τ s) {t x : Nat} (hx : x < 2 ^ td τ) (ht : t < 12) (h14 : ∀ v, v < 2 ^ td τ → pI s 14 v = b2i (mayB τ t v)) (hT : TM τ s 12 0) (k : Int32 → Option (Unit × pS)) : lX5_layRound_47 s (nI x) (nI t) k FU (nI 0) = k (nI (lsN (dpO τ) (mayS τ) (td τ) (11 - t) t x)) := by
  have o2 := ho.2.1
  have hp8 := pow8 o2
  have gd := dpO_gd τ
  have os := FR_Ro ho fr
  have lm := FR_LM fr
  have ed : td s = td τ := LM_td lm
  obtain ⟨w1, w2, w3⟩ := lsN_ok gd (mayS_D τ) (11 - t) t x
  refine whP (fun F (_ : Unit) v => lX5_layRound_47 s (nI x) (nI t) k F v) (n := 2 ^ td τ) (by omega) (fun j _ => ∀ u, u < j → optB (dpO τ) (mayS τ) (11 - t) t x u = false) (fun o => o = k (nI (lsN (dpO τ) (mayS τ) (td τ) (11 - t) t x))) () (fun u hu => absurd hu (Nat.not_lt_zero u)) (fun F _ hI => ?_) (fun F _ j hj hI => ?_)
  · rw [hI _ w1] at w2
    exact absurd w2 (by decide)
  · have hox := or_lt hx hj
    obtain ⟨t1, -⟩ := hT (t + 1) (Nat.zero_le _) (by omega) (x ||| j) hox
    obtain ⟨t0, -⟩ := hT t (Nat.zero_le _) (by omega) x hx
    rw [show 12 - (t + 1) = 11 - t by omega] at t1
    rw [show 12 - t = 11 - t + 1 by omega] at t0
    have al := awN_le τ x (td τ)
    have ll := LoO_lt ho (mayS τ) (11 - t) (t + 1) (x ||| j)
    have l0 := LoO_lt ho (mayS τ) (11 - t + 1) t x
    have r2 : t * rateT τ j (td τ) ≤ 12 * 72 := Nat.mul_le_mul (by omega) (rateO_lt ho j)
    have cl : dpc (dpO τ) t (Lo (dpO τ) (mayS τ) (11 - t) (t + 1)) x j < 2 ^ 30 := by
      show t * rateT τ j (td τ) + Lo (dpO τ) (mayS τ) (11 - t) (t + 1) (x ||| j) < 2 ^ 30
      omega
    have step : lX5_layRound_47 s (nI x) (nI t) k (F + 1) (nI j) = if optB (dpO τ) (mayS τ) (11 - t) t x j = true then k (nI j) else lX5_layRound_47 s (nI x) (nI t) k F (nI (j + 1)) := by
      rw [lX5_layRound_47.eq_2, q_and, pin_lit (show j < 256 by omega) (by decide), nI_clamp (show j < 2 ^ 31 by omega), h14 j hj, gain_eq os (by omega), ed, LM_gA lm, LM_rate lm]
      unfold fX5_spot
      simp only [nI_1, q_or, n256, pin_lit (show 256 * (t + 1) + (x ||| j) < 3328 by omega) (by decide), nI_clamp (show 256 * (t + 1) + (x ||| j) < 2 ^ 31 by omega), pin_lit (show 256 * t + x < 3328 by omega) (by decide), nI_clamp (show 256 * t + x < 2 ^ 31 by omega), t1, t0, obind_some, if_true, b2i_0, nI_lit (show j &&& x < 2 ^ 31 from Nat.lt_of_le_of_lt Nat.and_le_left (by omega)) (show 0 < 2 ^ 31 by decide) (show (0 : Int32) = nI 0 from rfl)]
      unfold optB okB
      by_cases q : j &&& x = 0
      · have is : nI (gA τ j (td τ)) - nI (t * rateT τ j (td τ)) + (nI (awN τ (x ||| j) (td τ)) - nI (Lo (dpO τ) (mayS τ) (11 - t) (t + 1) (x ||| j))) = nI (awN τ x (td τ)) - nI (dpc (dpO τ) t (Lo (dpO τ) (mayS τ) (11 - t) (t + 1)) x j) := by
          rw [i32_ss, nI_add, nI_add, aw_split τ q]
          rfl
        rw [if_pos q, is]
        simp only [sA_eq (show awN τ x (td τ) < 2 ^ 30 by omega) cl (show Lo (dpO τ) (mayS τ) (11 - t + 1) t x < 2 ^ 30 by omega)]
        rw [decide_eq_true q, Bool.and_true]
        unfold mayB
        show _ = if (decide (j &&& mayS τ t = j) && fitT τ j (td τ) && decide _) = true then _ else _
        cases (decide (j &&& mayS τ t = j) && fitT τ j (td τ))
        · simp
        · simp
      · rw [if_neg q, decide_eq_false q, Bool.and_false]
        simp
    cases q : optB (dpO τ) (mayS τ) (11 - t) t x j
    · left
      refine ⟨(), ?_, fun u hu => ?_⟩
      · show lX5_layRound_47 s _ _ _ (F + 1) _ = _
        rw [step, q]; rfl
      · by_cases z : u = j
        · rw [z]; exact q
        · exact hI u (by omega)
    · right
      show lX5_layRound_47 s _ _ _ (F + 1) _ = _
      rw [step, q, if_pos rfl]
      congr 2
      exact (fstN_eq hj q hI).symm
theorem layRound_eq {τ : pS} (ho : Ro τ) : ∃ τ', fX5_layRound τ = some ((), τ') ∧ FR τ τ' ∧ TM τ τ' 12 0 ∧ ∀ d, d < td τ → pI τ' 11 d = rdN (dpO τ) (mayS τ) (td τ) 12 d := by
  have o2 := ho.2.1
  have hp8 := pow8 o2
  have gd := dpO_gd τ
  unfold fX5_layRound
  obtain ⟨s0, h1, h2, h3⟩ := layRounds_eq ho (e := 12) (by decide)
  rw [show (12 : Int32) = nI 12 from rfl, h1, pbind_some]
  have o0 := FB_Ro ho h2
  have e0 : td s0 = td τ := LM_td (FB_LM h2)
  obtain ⟨s1, k1, k2, k3⟩ := mround0 o0 (fun (σ5 : pS) => lX5_layRound_34 (fun (σ22 : pS) => some ((), σ22)) FU (0 : Int32) (0 : Int32) σ5)
  refine (fun X => k1 ▸ X) ?_
  have T1 : TM τ s1 12 0 := fun t t1 t2 x hx => by
    rw [k2.1 12 _ (by decide), k2.2.1]
    exact h3 t t1 t2 x hx
  refine whP (fun F (a : Int32 × pS) v => lX5_layRound_34 (fun σ22 => some ((), σ22)) F a.1 v a.2) (n := 12) (by decide) (fun j a => a.1 = nI (dnN (dpO τ) (mayS τ) (td τ) j) ∧ FR τ a.2 ∧ TM τ a.2 12 0 ∧ ∀ d, d < td τ → pI a.2 11 d = rdN (dpO τ) (mayS τ) (td τ) j d) (fun o => ∃ τ', o = some ((), τ') ∧ FR τ τ' ∧ TM τ τ' 12 0 ∧ ∀ d, d < td τ → pI τ' 11 d = rdN (dpO τ) (mayS τ) (td τ) 12 d) ((0 : Int32), s1) ⟨rfl, FR_tr (FB_FR h2) (FR_only k2 (by omega)), T1, fun d hd => k3 d (by rw [e0]; exact hd)⟩ (fun F a ha => ⟨a.2, ?_, ha.2⟩) (fun F a j hj ha => Or.inl ?_)
  · show lX5_layRound_34 _ (F + 1) _ _ _ = _
    rw [lX5_layRound_34.eq_2, if_pos (show (12 : Int32) ≤ nI 12 by decide)]
  · obtain ⟨d, s⟩ := a
    obtain ⟨rfl, s1, s2, s3⟩ := ha
    have os := FR_Ro ho s1
    have lm := FR_LM s1
    have ed : td s = td τ := LM_td lm
    have dl := dnN_lt gd (mayS_D τ) j
    have ll := lsN_ok gd (mayS_D τ) (11 - j) j (dnN (dpO τ) (mayS τ) (td τ) j)
    obtain ⟨s', m1, m2, m3⟩ := layMay_eq os (t := j) hj
    have fr' := FR_tr s1 (FR_only m2 (by omega))
    have T2 : TM τ s' 12 0 := fun u u1 u2 x hx => by
      rw [m2.1 12 _ (by decide), m2.2.1]
      exact s2 u u1 u2 x hx
    have se := msearch ho fr' dl hj (fun v hv => by
      rw [m3 v (by rw [ed]; exact hv)]
      unfold mayB
      rw [LM_may lm, LM_fit lm, ed]) T2 (fun (y15 : Int32) => lX5_layRound_105 (nI (dnN (dpO τ) (mayS τ) (td τ) j)) (nI j) y15 (fun (σ20 : pS) => plet (nI (dnN (dpO τ) (mayS τ) (td τ) j) ||| y15) fun x21 => lX5_layRound_34 (fun σ22 => some ((), σ22)) F x21 (nI j + (1 : Int32)) σ20) FU (0 : Int32) s')
    have os' := FR_Ro ho fr'
    have ed' : td s' = td τ := LM_td (FR_LM fr')
    obtain ⟨s'', b1, b2, b3⟩ := mmark os' (now := lsN (dpO τ) (mayS τ) (td τ) (11 - j) j (dnN (dpO τ) (mayS τ) (td τ) j)) (by omega) j (nI (dnN (dpO τ) (mayS τ) (td τ) j)) (fun (σ20 : pS) => plet (nI (dnN (dpO τ) (mayS τ) (td τ) j) ||| nI (lsN (dpO τ) (mayS τ) (td τ) (11 - j) j (dnN (dpO τ) (mayS τ) (td τ) j))) fun x21 => lX5_layRound_34 (fun σ22 => some ((), σ22)) F x21 (nI j + (1 : Int32)) σ20)
    refine ⟨(nI (dnN (dpO τ) (mayS τ) (td τ) (j + 1)), s''), ?_, rfl, FR_tr fr' (FR_only b2 (by omega)), fun u u1 u2 x hx => ?_, fun d hd => ?_⟩
    · show lX5_layRound_34 _ (F + 1) _ _ _ = lX5_layRound_34 _ F _ _ _
      rw [lX5_layRound_34.eq_2, if_neg (show ¬ (12 : Int32) ≤ nI j from nI_nge (b := 12) hj (by decide)), m1, pbind_some]
      refine se.trans (b1.trans ?_)
      rw [plet_eq, q_or, nI_1, dnN_s]
    · rw [b2.1 12 _ (by decide), b2.2.1]
      exact T2 u u1 u2 x hx
    · rw [b3 d (by rw [ed']; exact hd), rdN_s, m2.1 11 _ (by decide), s3 d hd]
