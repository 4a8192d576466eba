/-! PURE: the reference's rounds, hour by hour -/
theorem sA_le {A c d : Nat} (hA : A < 2 ^ 30) (hc : c < 2 ^ 30) (hd : d < 2 ^ 30) : (nI A - nI c ≤ nI A - nI d) = (d ≤ c) := by
  rw [Int32.le_iff_toInt_le, pk_sub_toInt hA hc, pk_sub_toInt hA hd]
  exact propext ⟨fun h => by omega, fun h => by omega⟩
theorem sA_eq {A c d : Nat} (hA : A < 2 ^ 30) (hc : c < 2 ^ 30) (hd : d < 2 ^ 30) : (nI A - nI c = nI A - nI d) = (c = d) := propext ⟨fun h => by
  have := congrArg Int32.toInt h
  rw [pk_sub_toInt hA hc, pk_sub_toInt hA hd] at this
  omega, fun h => by rw [h]⟩
theorem n256 {k j : Nat} : (256 : Int32) * nI k + nI j = nI (256 * k + j) := by
  rw [show (256 : Int32) = nI 256 from rfl, pk_mul, nI_add]
def stW (ok : Nat → Bool) (c wn : Nat → Nat) (v cur w : Nat) : Nat × Nat := if ok v then (if w = 0 ∨ c v < cur then (c v, wn v) else if c v = cur then (cur, w + wn v) else (cur, w)) else (cur, w)
theorem INV_step {ok : Nat → Bool} {c wn : Nat → Nat} {N n cur w : Nat} (h : INV ok c wn N (n + 1) cur w) (hN : n < N) (hc : c n < 2 ^ 29) (hw : 0 < wn n) : INV ok c wn N n (stW ok c wn n cur w).1 (stW ok c wn n cur w).2 := by
  unfold stW
  cases q : ok n
  · exact INV_skip h q
  · rw [if_pos rfl]
    by_cases z : w = 0 ∨ c n < cur
    · rw [if_pos z]; exact INV_new h hN q hc hw z
    · rw [if_neg z]
      by_cases y : c n = cur
      · rw [if_pos y]; exact INV_same h q (fun x => z (Or.inl x)) y
      · rw [if_neg y]; exact INV_more h (fun x => z (Or.inl x)) (by omega)
def TM (τ s : pS) (e a : Nat) : Prop := ∀ t, a ≤ t → t ≤ e → ∀ x, x < 2 ^ td τ → pI s 12 (256 * t + x) = nI (awN τ x (td τ)) - nI (Lo (dpO τ) (mayS τ) (e - t) t x) ∧ pL s 13 (256 * t + x) = lN (Wn (dpO τ) (mayS τ) (td τ) (e - t) t x)
theorem lN_z (x : Int64) : x + 0 = x := Int64.add_zero x
theorem best_step {τ s : pS} (ho : Ro τ) (fb : FB τ s) {e t x : Nat} (hx : x < 2 ^ td τ) (ht : t < e) (he : e ≤ 12) (h14 : ∀ v, v < 2 ^ td τ → pI s 14 v = b2i (mayB τ t v)) (hT : TM τ s e (t + 1)) (k : Int32 → Int64 → Option (Unit × pS)) (F : Nat) {v cur w : Nat} (hv : v < 2 ^ td τ) (hl : v &&& opN τ x = v) (hc : cur < 2 ^ 29) (hw : w < 2 ^ 60) : lX5_layBest_18 s (nI t) (nI x) (nI (opN τ x)) k (F + 1) (nI (awN τ x (td τ)) - nI cur) (lN w) (nI v) = (if v = 0 then lX5_layBest_18 s (nI t) (nI x) (nI (opN τ x)) k F (nI (awN τ x (td τ)) - nI (stW (okB (dpO τ) (mayS τ t) x) (dpc (dpO τ) t (Lo (dpO τ) (mayS τ) (e - (t + 1)) (t + 1)) x) (fun v => Wn (dpO τ) (mayS τ) (td τ) (e - (t + 1)) (t + 1) (x ||| v)) v cur w).1) (lN (stW (okB (dpO τ) (mayS τ t) x) (dpc (dpO τ) t (Lo (dpO τ) (mayS τ) (e - (t + 1)) (t + 1)) x) (fun v => Wn (dpO τ) (mayS τ) (td τ) (e - (t + 1)) (t + 1) (x ||| v)) v cur w).2) (-1) else lX5_layBest_18 s (nI t) (nI x) (nI (opN τ x)) k F (nI (awN τ x (td τ)) - nI (stW (okB (dpO τ) (mayS τ t) x) (dpc (dpO τ) t (Lo (dpO τ) (mayS τ) (e - (t + 1)) (t + 1)) x) (fun v => Wn (dpO τ) (mayS τ) (td τ) (e - (t + 1)) (t + 1) (x ||| v)) v cur w).1) (lN (stW (okB (dpO τ) (mayS τ t) x) (dpc (dpO τ) t (Lo (dpO τ) (mayS τ) (e - (t + 1)) (t + 1)) x) (fun v => Wn (dpO τ) (mayS τ) (td τ) (e - (t + 1)) (t + 1) (x ||| v)) v cur w).2) (nI ((v - 1) &&& opN τ x))) := by
  have o2 := ho.2.1
  have hp8 := pow8 o2
  have os := FB_Ro ho fb
  have lm := FB_LM fb
  have ed : td s = td τ := LM_td lm
  have hox := or_lt hx hv
  have vx : v &&& x = 0 := (sub_diff.mp hl).2
  have okm : okB (dpO τ) (mayS τ t) x v = mayB τ t v := by
    unfold okB mayB
    rw [decide_eq_true vx, Bool.and_true]
    rfl
  obtain ⟨t1, t2⟩ := hT (t + 1) (Nat.le_refl _) (by omega) (x ||| v) hox
  have wl := Wn_63 (P := dpO τ) (mk := mayS τ) (N := td τ) o2 (j := e - (t + 1)) (by omega) (t + 1) (x ||| v)
  have al := awN_le τ x (td τ)
  have ll := LoO_lt ho (mayS τ) (e - (t + 1)) (t + 1) (x ||| v)
  have rl := rateO_lt ho v
  have r2 : t * rateT τ v (td τ) ≤ 12 * 72 := Nat.mul_le_mul (by omega) rl
  have cl : dpc (dpO τ) t (Lo (dpO τ) (mayS τ) (e - (t + 1)) (t + 1)) x v < 2 ^ 29 := by
    show t * rateT τ v (td τ) + Lo (dpO τ) (mayS τ) (e - (t + 1)) (t + 1) (x ||| v) < 2 ^ 29
    omega
  have is : nI (gA τ v (td τ)) - nI (t * rateT τ v (td τ)) + (nI (awN τ (x ||| v) (td τ)) - nI (Lo (dpO τ) (mayS τ) (e - (t + 1)) (t + 1) (x ||| v))) = nI (awN τ x (td τ)) - nI (dpc (dpO τ) t (Lo (dpO τ) (mayS τ) (e - (t + 1)) (t + 1)) x v) := by
    rw [i32_ss, nI_add, nI_add, aw_split τ vx]
    rfl
  rw [lX5_layBest_18.eq_2, if_neg (nI_pos (by omega)), pin_lit (show v < 256 by omega) (by decide), nI_clamp (show v < 2 ^ 31 by omega), h14 v hv, gain_eq os (by omega), ed, LM_gA lm, LM_rate lm]
  unfold fX5_spot stW
  simp only [nI_1, q_or, n256, pin_lit (show 256 * (t + 1) + (x ||| v) < 3328 by omega) (by decide), nI_clamp (show 256 * (t + 1) + (x ||| v) < 2 ^ 31 by omega), t1, t2, obind_some, if_true, plet_eq, is, b2i_0, okm, lg_0 (show w < 2 ^ 63 by omega), sA_le (show awN τ x (td τ) < 2 ^ 30 by omega) (Nat.lt_trans cl (by decide)) (Nat.lt_trans hc (by decide)), sA_eq (show awN τ x (td τ) < 2 ^ 30 by omega) (Nat.lt_trans cl (by decide)) (Nat.lt_trans hc (by decide)), lN_z]
  generalize dpc (dpO τ) t (Lo (dpO τ) (mayS τ) (e - (t + 1)) (t + 1)) x v = c at *
  generalize Wn (dpO τ) (mayS τ) (td τ) (e - (t + 1)) (t + 1) (x ||| v) = wn at *
  have v0 : (nI v = 0) = (v = 0) := nI_lit (by omega) (by decide) rfl
  have nx : 0 < v → (nI v - 1) &&& nI (opN τ x) = nI ((v - 1) &&& opN τ x) := fun h => sub_pred h
  simp only [v0]
  have fin : ∀ b ww, (if v = 0 then lX5_layBest_18 s (nI t) (nI x) (nI (opN τ x)) k F b ww (-1) else lX5_layBest_18 s (nI t) (nI x) (nI (opN τ x)) k F b ww ((nI v - 1) &&& nI (opN τ x))) = (if v = 0 then lX5_layBest_18 s (nI t) (nI x) (nI (opN τ x)) k F b ww (-1) else lX5_layBest_18 s (nI t) (nI x) (nI (opN τ x)) k F b ww (nI ((v - 1) &&& opN τ x))) := fun b ww => by
    by_cases z : v = 0
    · rw [if_pos z, if_pos z]
    · rw [if_neg z, if_neg z, nx (by omega)]
  simp only [fin]
  cases mayB τ t v
  · simp
  · simp only [Bool.true_eq_false, if_false, if_true]
    by_cases w0 : w = 0
    · simp only [w0, true_or, if_true]
      rw [show (0 : Int64) + lN wn = lN wn from Int64.zero_add _]
    · simp only [w0, if_false, false_or]
      by_cases z : cur ≤ c
      · rw [if_pos z, if_neg (show ¬ c < cur by omega)]
        by_cases y : c = cur
        · rw [if_pos y, if_pos y, lN_add]
        · rw [if_neg y, if_neg y]
      · rw [if_neg z, if_pos (show c < cur by omega)]
        rw [show (0 : Int64) + lN wn = lN wn from Int64.zero_add _]
theorem layBest_eq {τ s : pS} (ho : Ro τ) (fb : FB τ s) {e t x : Nat} (hx : x < 2 ^ td τ) (ht : t < e) (he : e ≤ 12) (h14 : ∀ v, v < 2 ^ td τ → pI s 14 v = b2i (mayB τ t v)) (hT : TM τ s e (t + 1)) : fX5_layBest s (nI t) (nI x) = some ((), sL (sI s 12 (256 * t + x) (nI (awN τ x (td τ)) - nI (Lo (dpO τ) (mayS τ) (e - t) t x))) 13 (256 * t + x) (lN (Wn (dpO τ) (mayS τ) (td τ) (e - t) t x))) := by
  have o2 := ho.2.1
  have hp8 := pow8 o2
  have os := FB_Ro ho fb
  have lm := FB_LM fb
  have ed : td s = td τ := LM_td lm
  have ol := op_lt τ x
  have gd := dpO_gd τ
  have al := awN_le τ x (td τ)
  have cl : ∀ v, dpc (dpO τ) t (Lo (dpO τ) (mayS τ) (e - (t + 1)) (t + 1)) x v < 2 ^ 29 := fun v => by
    have ll := LoO_lt ho (mayS τ) (e - (t + 1)) (t + 1) (x ||| v)
    have r2 : t * rateT τ v (td τ) ≤ 12 * 72 := Nat.mul_le_mul (by omega) (rateO_lt ho v)
    show t * rateT τ v (td τ) + Lo (dpO τ) (mayS τ) (e - (t + 1)) (t + 1) (x ||| v) < 2 ^ 29
    omega
  have wl : ∀ v, Wn (dpO τ) (mayS τ) (td τ) (e - (t + 1)) (t + 1) (x ||| v) < 2 ^ 40 := fun v => Wn_63 o2 (by omega) _ _
  have wp : ∀ v, 0 < Wn (dpO τ) (mayS τ) (td τ) (e - (t + 1)) (t + 1) (x ||| v) := fun v => Wn_pos gd (mayS_D τ) _ _ _
  unfold fX5_layBest
  rw [allD_eq os, ed, obind_some, q_not, show diff (2 ^ td τ - 1) x = opN τ x from rfl, plet_eq]
  generalize hk : (fun (y21 : Int32) (y22 : Int64) => (fX5_spot (nI t) (nI x)).bind fun r24 => if pin r24 3328 = true then plet (sI s 12 r24.toNatClampNeg y21) fun σ25 => (fX5_spot (nI t) (nI x)).bind fun r27 => if pin r27 3328 = true then plet (sL σ25 13 r27.toNatClampNeg y22) fun σ28 => some ((), σ28) else none else none) = k
  have kv : ∀ b ww, k b ww = some ((), sL (sI s 12 (256 * t + x) b) 13 (256 * t + x) ww) := fun b ww => by
    rw [← hk]
    unfold fX5_spot
    simp only [n256, obind_some, pin_lit (show 256 * t + x < 3328 by omega) (by decide), if_true, plet_eq, nI_clamp (show 256 * t + x < 2 ^ 31 by omega)]
  have main : ∃ cur w, lX5_layBest_18 s (nI t) (nI x) (nI (opN τ x)) k FU 0 0 (nI (opN τ x)) = k (nI (awN τ x (td τ)) - nI cur) (lN w) ∧ INV (okB (dpO τ) (mayS τ t) x) (dpc (dpO τ) t (Lo (dpO τ) (mayS τ) (e - (t + 1)) (t + 1)) x) (fun v => Wn (dpO τ) (mayS τ) (td τ) (e - (t + 1)) (t + 1) (x ||| v)) (2 ^ td τ) 0 cur w := by
    refine whSub (fun F (a : Int32 × Int64) v => lX5_layBest_18 s (nI t) (nI x) (nI (opN τ x)) k (F + 1) a.1 a.2 v) (opN τ x) (fun n a => ∃ cur w, a = (nI (awN τ x (td τ)) - nI cur, lN w) ∧ INV (okB (dpO τ) (mayS τ t) x) (dpc (dpO τ) t (Lo (dpO τ) (mayS τ) (e - (t + 1)) (t + 1)) x) (fun v => Wn (dpO τ) (mayS τ) (td τ) (e - (t + 1)) (t + 1) (x ||| v)) (2 ^ td τ) (n + 1) cur w) (fun o => ∃ cur w, o = k (nI (awN τ x (td τ)) - nI cur) (lN w) ∧ INV (okB (dpO τ) (mayS τ t) x) (dpc (dpO τ) t (Lo (dpO τ) (mayS τ) (e - (t + 1)) (t + 1)) x) (fun v => Wn (dpO τ) (mayS τ) (td τ) (e - (t + 1)) (t + 1) (x ||| v)) (2 ^ td τ) 0 cur w) (fun F a ha => ?_) (fun n a hn ha => ?_) (fun F a v v0 v1 v2 ha => ?_) (opN τ x) 999 (0, 0) (by omega) (Nat.and_self _) (Nat.le_refl _) ⟨awN τ x (td τ), 0, ?_, ?_⟩
    · obtain ⟨cur, w, rfl, hI⟩ := ha
      have st := INV_step hI (Nat.two_pow_pos _) (cl 0) (wp 0)
      refine ⟨_, _, ?_, st⟩
      show lX5_layBest_18 s (nI t) (nI x) (nI (opN τ x)) k (F + 1 + 1) _ _ (nI 0) = _
      rw [best_step ho fb hx ht he h14 hT k (F + 1) (Nat.two_pow_pos _) (Nat.zero_and _) hI.1 (INV_w hI (by omega) wl), if_pos rfl, lX5_layBest_18.eq_2, if_pos (by decide)]
    · obtain ⟨cur, w, rfl, hI⟩ := ha
      by_cases q : n + 1 < 2 ^ td τ
      · refine ⟨cur, w, rfl, INV_skip hI ?_⟩
        cases z : okB (dpO τ) (mayS τ t) x (n + 1)
        · rfl
        · have z' := okB_iff.mp z
          refine absurd (sub_diff.mpr ⟨?_, z'.2.1⟩) hn
          rw [Nat.and_two_pow_sub_one_eq_mod, Nat.mod_eq_of_lt q]
      · have z : ¬ okB (dpO τ) (mayS τ t) x (n + 1) = true := fun z => q (Nat.lt_of_le_of_lt (and_le (okB_iff.mp z).1) (mayS_D τ t))
        exact ⟨cur, w, rfl, INV_skip hI (by simpa using z)⟩
    · obtain ⟨cur, w, rfl, hI⟩ := ha
      have st := INV_step hI (show v < 2 ^ td τ by omega) (cl v) (wp v)
      refine ⟨_, ?_, _, _, rfl, by rw [show v - 1 + 1 = v by omega]; exact st⟩
      show lX5_layBest_18 s (nI t) (nI x) (nI (opN τ x)) k (F + 1 + 1) _ _ (nI v) = lX5_layBest_18 s (nI t) (nI x) (nI (opN τ x)) k (F + 1) _ _ _
      rw [best_step ho fb hx ht he h14 hT k (F + 1) (show v < 2 ^ td τ by omega) v1 hI.1 (INV_w hI (by omega) wl), if_neg (by omega)]
    · rw [Int32.sub_self]; rfl
    · refine ⟨by omega, fun v v1 v2 v3 => ?_, fun z => absurd rfl z, ?_⟩
      · have z' := okB_iff.mp v3
        have := and_le (sub_diff.mpr ⟨show v &&& (2 ^ td τ - 1) = v by rw [Nat.and_two_pow_sub_one_eq_mod, Nat.mod_eq_of_lt v2], z'.2.1⟩)
        have : v ≤ opN τ x := this
        omega
      · rw [Nat.zero_add]
        refine sumN_to (by omega) (fun u u1 u2 => ?_)
        unfold fcN
        cases z : okB (dpO τ) (mayS τ t) x u
        · rfl
        · have z' := okB_iff.mp z
          have := and_le (sub_diff.mpr ⟨show u &&& (2 ^ td τ - 1) = u by rw [Nat.and_two_pow_sub_one_eq_mod, Nat.mod_eq_of_lt u2], z'.2.1⟩)
          have : u ≤ opN τ x := this
          omega
  obtain ⟨cur, w, m1, m2⟩ := main
  refine m1.trans ?_
  rw [kv]
  have ee : e - t = e - (t + 1) + 1 := by omega
  have hcur : cur = Lo (dpO τ) (mayS τ) (e - t) t x := by
    have z0 := m2.2.1 0 (Nat.le_refl _) (Nat.two_pow_pos _) (okB_iff.mpr (okN_0 gd _ _))
    obtain ⟨v, v1, v2, v3⟩ := m2.2.2.1 z0.1
    rw [ee]
    apply Nat.le_antisymm
    · obtain ⟨u, u1, u2⟩ := Lo_att gd (mayS τ) (e - (t + 1)) t x
      rw [u2]
      exact (m2.2.1 u (Nat.zero_le _) (Nat.lt_of_le_of_lt (and_le u1.1) (mayS_D τ t)) (okB_iff.mpr u1)).2
    · rw [← v3]
      exact Lo_le gd (okB_iff.mp v2)
  have hw : w = Wn (dpO τ) (mayS τ) (td τ) (e - t) t x := by
    have z := m2.2.2.2
    rw [show sumN (fcN (okB (dpO τ) (mayS τ t) x) (dpc (dpO τ) t (Lo (dpO τ) (mayS τ) (e - (t + 1)) (t + 1)) x) (fun v => Wn (dpO τ) (mayS τ) (td τ) (e - (t + 1)) (t + 1) (x ||| v)) cur) 0 = 0 from rfl, Nat.add_zero] at z
    rw [z, ee, Wn_s]
    refine sumN_congr _ (fun v _ => ?_)
    unfold fcN optB
    rw [hcur, ee]
  rw [← hcur, ← hw]
