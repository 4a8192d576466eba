/-! PURE: the reference's call -/
theorem HB_dpO {τ τ' : pS} {o : Nat → Nat} (h : HB τ τ' o) : dpO τ' = dpO τ := by
  have e : td τ' = td τ := HB_td h
  unfold dpO opN
  rw [e]
  refine Prod.ext (funext fun s => HB_fit h s _) (Prod.ext (funext fun s => HB_rate h s _) (funext fun s => ?_))
  show 10000 * oc (td τ) s + 12 * rateT τ' _ _ = 10000 * oc (td τ) s + 12 * rateT τ _ _
  rw [HB_rate h]
theorem HB_vN {τ τ' : pS} {o : Nat → Nat} (h : HB τ τ' o) (d : Nat) : vN τ' d = vN τ d := by unfold vN; rw [h.1]
theorem HB_aw {τ τ' : pS} {o : Nat → Nat} (h : HB τ τ' o) (v : Nat) : ∀ n, awN τ' v n = awN τ v n
  | 0 => rfl
  | n + 1 => by rw [awN_s, awN_s, HB_aw h v n, HB_vN h]
def tgO (τ : pS) (p t q : Nat) : Nat := if q = p then outN τ q ^^^ 2 ^ t else outN τ q
theorem tog_val {τ : pS} (ho : Ro τ) {p t : Nat} (hp : p < tn τ) (ht : t < 12) : pI τ 7 (4 * p + 2) ^^^ ((1 : Int32) <<< (nI t &&& 31)) = nI (outN τ p ^^^ 2 ^ t) := by
  rw [(outN_ok (ho.2.2.2.2.2.1 p hp)).1, q_one (by omega), q_xor]
theorem tog_HB {τ : pS} (ho : Ro τ) {p t : Nat} (hp : p < tn τ) (ht : t < 12) : HB τ (sI τ 7 (4 * p + 2) (nI (outN τ p ^^^ 2 ^ t))) (tgO τ p t) := by
  refine ⟨fun i => pI_sI_ne (by decide), ⟨pI_sI_ne (by decide), pI_sI_ne (by decide), pI_sI_ne (by decide)⟩, fun q k h1 h2 => pI_sI_nj (by omega), fun q hq => ?_⟩
  unfold tgO
  by_cases z : q = p
  · rw [z, pI_sI_eq, if_pos rfl]
    exact ⟨rfl, xor_lt (out_lt ho hp) ht⟩
  · rw [pI_sI_nj (by omega), if_neg z]
    exact outN_ok (ho.2.2.2.2.2.1 q hq)
theorem tog_back {s s2 : pS} (ho : Ro s) {p t : Nat} (hp : p < tn s) (ht : t < 12) (fr : FR (sI s 7 (4 * p + 2) (nI (outN s p ^^^ 2 ^ t))) s2) : pI s2 7 (4 * p + 2) ^^^ ((1 : Int32) <<< (nI t &&& 31)) = pI s 7 (4 * p + 2) ∧ FR s (sI s2 7 (4 * p + 2) (pI s 7 (4 * p + 2))) := by
  have e := fr.1 7 (4 * p + 2) (by decide) (by decide) (by decide)
  rw [pI_sI_eq] at e
  constructor
  · rw [e, q_one (by omega), q_xor, Nat.xor_assoc, Nat.xor_self, Nat.xor_zero, (outN_ok (ho.2.2.2.2.2.1 p hp)).1]
  · refine ⟨fun e' i q0 q1 q2 => ?_, fun e' i q => ?_, fun e' i => ?_⟩
    · rw [pI_sI]
      by_cases z : e' = 7 ∧ i = 4 * p + 2
      · rw [if_pos z, z.1, z.2]
      · rw [if_neg z, fr.1 e' i q0 q1 q2, pI_sI, if_neg z]
    · rw [pL_sI, fr.2.1 e' i q, pL_sI]
    · rw [pR_sI, fr.2.2 e' i, pR_sI]
theorem tog_mkc {τ : pS} (ho : Ro τ) {p t : Nat} (hp : p < tn τ) (hout : outB τ t p = false) : (fun x => mayO τ x (fun q => (tgO τ p t q).testBit x)) = mkc τ p t := by
  funext x
  unfold mkc
  by_cases z : x = t
  · rw [if_pos z, z]
    refine mayO_congr ho t (fun q hq => ?_)
    rw [Nat.testBit_or, outS_bit hq, two_bit]
    unfold tgO
    by_cases y : q = p
    · rw [if_pos y, y, Nat.testBit_xor, two_bit, show (outN τ p).testBit t = false from hout, hout, decide_eq_true rfl, decide_eq_true rfl]
      rfl
    · rw [if_neg y, decide_eq_false (fun w => y w.symm), Bool.or_false]
      rfl
  · rw [if_neg z, ← mayO_S]
    refine mayO_congr ho x (fun q hq => ?_)
    unfold tgO
    by_cases y : q = p
    · rw [if_pos y, Nat.testBit_xor, two_bit, decide_eq_false (fun w => z w.symm), Bool.xor_false]
      rfl
    · rw [if_neg y]
      rfl
theorem HB_mayf {τ τ' : pS} {o : Nat → Nat} (ho : Ro τ) (h : HB τ τ' o) : mayS τ' = fun x => mayO τ x (fun q => (o q).testBit x) := funext (HB_may ho h)
theorem LM_outS {τ τ' : pS} (h : LM τ τ') (t : Nat) : outS τ' t = outS τ t := by unfold outS; rw [LM_tn h, LM_out h]
theorem LM_mkc {τ τ' : pS} (h : LM τ τ') (p t : Nat) : mkc τ' p t = mkc τ p t := by
  funext x
  unfold mkc mayO
  rw [LM_outS h, LM_td h, LM_pay h, LM_may h]
theorem LM_cd {τ τ' : pS} (h : LM τ τ') (p : Nat) : cdN τ' p = cdN τ p := by unfold cdN; rw [h.1 7 (by omega)]
def MB (τ : pS) (S : Nat → Nat → Prop) (v2 v3 v4 : Int32) : Prop := (v2 = -9 ∧ ∀ p t, S p t → ¬ cand τ p t) ∨ ∃ p t, bstC τ S p t ∧ v2 = nI (100 * p + t) ∧ v3 = nI (td τ - clN τ p t / 10000) ∧ v4 = nI (avN τ (td τ) + clN τ p t % 10000 + cdN τ p)
theorem call_order {τ : pS} (ho : Ro τ) {p t q u : Nat} (hp : p < tn τ) (hq : q < tn τ) : (td τ - clN τ q u / 10000 < td τ - clN τ p t / 10000 ∨ (td τ - clN τ p t / 10000 = td τ - clN τ q u / 10000 ∧ avN τ (td τ) + clN τ p t % 10000 + cdN τ p < avN τ (td τ) + clN τ q u % 10000 + cdN τ q)) ↔ lsC τ p t < lsC τ q u := by
  obtain ⟨m, i, e1, e2, e3⟩ := clN_ok ho p t
  obtain ⟨m', i', f1, f2, f3⟩ := clN_ok ho q u
  have c1 := (cdN_ok ho hp).2
  have c2 := (cdN_ok ho hq).2
  have o2 := ho.2.1
  unfold lsC
  constructor
  · intro z; omega
  · intro z; omega
theorem mcall_step {τ s : pS} (ho : Ro τ) (fr : FR τ s) {S S' : Nat → Nat → Prop} {p t : Nat} (hp : p < tn τ) (ht : t < 12) {v2 v3 v4 : Int32} (hB : MB τ S v2 v3 v4) (hS' : ∀ p' t', S' p' t' ↔ (S p' t' ∨ (p' = p ∧ t' = t))) (hord : ∀ p' t', S p' t' → p' < p ∨ (p' = p ∧ t' < t)) (a : Int32) (k : Int32 → Int32 → Int32 → pS → Option (Int32 × pS)) (F : Nat) : ∃ w2 w3 w4 s', lX5_call_34 a (nI p) k (F + 1) v2 v3 v4 (nI t) s = lX5_call_34 a (nI p) k F w2 w3 w4 (nI (t + 1)) s' ∧ FR τ s' ∧ MB τ S' w2 w3 w4 := by
  have o1 := ho.1
  have o2 := ho.2.1
  have os := FR_Ro ho fr
  have lm := FR_LM fr
  have en : tn s = tn τ := LM_tn lm
  have ed : td s = td τ := LM_td lm
  have hps : p < tn s := by omega
  rw [lX5_call_34.eq_2, if_neg (show ¬ (12 : Int32) ≤ nI t from nI_nge (b := 12) ht (by decide)), isOutE os hps ht, obind_some, LM_out lm]
  simp only [b2i_0]
  cases q : outB τ t p
  · rw [if_pos rfl, n4 2 (show (2 : Int32) = nI 2 from rfl), pin_lit (show 4 * p + 2 < 24 by omega) (by decide), nI_clamp (show 4 * p + 2 < 2 ^ 31 by omega), tog_val os hps ht]
    have hb := tog_HB os hps ht
    have o1' := HB_Ro os hb
    obtain ⟨s2, m1, m2, m3⟩ := layRounds_eq o1' (e := 12) (by decide)
    obtain ⟨tb1, tb2⟩ := tog_back os hps ht (FB_FR m2)
    have frN := FR_tr fr tb2
    have c0 : pI s2 12 0 = nI (awN τ 0 (td τ)) - nI (clN τ p t) := by
      have := (m3 0 (Nat.le_refl _) (Nat.zero_le _) 0 (Nat.two_pow_pos _)).1
      rw [HB_aw hb, HB_td hb, HB_dpO hb, HB_mayf os hb, tog_mkc os hps (by rw [LM_out lm]; exact q), LM_aw lm, ed, LM_dpO lm, LM_mkc lm] at this
      exact this
    have c1 : pI (sI s2 7 (4 * p + 2) (pI s 7 (4 * p + 2))) 12 0 = nI (awN τ 0 (td τ)) - nI (clN τ p t) := by rw [pI_sI_ne (by decide)]; exact c0
    have card : pI (sI s2 7 (4 * p + 2) (pI s 7 (4 * p + 2))) 7 (4 * p + 3) = nI (cdN τ p) := by
      rw [tb2.1 7 _ (by decide) (by decide) (by decide), fr.1 7 _ (by decide) (by decide) (by decide)]
      exact (cdN_ok ho hp).1
    have lok := clN_ok ho p t
    simp only [if_true, plet_eq, show (12 : Int32) = nI 12 from rfl, m1, pbind_some, tb1, paidMany_eq ho lok c1, bestCost_eq ho lok c1, obind_some, n4 3 (show (3 : Int32) = nI 3 from rfl), pin_lit (show 4 * p + 3 < 24 by omega) (by decide), nI_clamp (show 4 * p + 3 < 2 ^ 31 by omega), card, nI_add, nI_1]
    have hcand : cand τ p t := ⟨hp, ht, q⟩
    have e100 : (100 : Int32) * nI p + nI t = nI (100 * p + t) := by rw [show (100 : Int32) = nI 100 from rfl, pk_mul, nI_add]
    rw [e100]
    have kself : ∀ p' t', p' = p ∧ t' = t → kle (lsC τ p t) p t (lsC τ p' t') p' t' := fun p' t' e => by rw [e.1, e.2]; unfold kle; omega
    rcases hB with ⟨e1, e2⟩ | ⟨x, u, b, e1, e2, e3⟩
    · rw [if_pos e1]
      refine ⟨_, _, _, _, rfl, frN, Or.inr ⟨p, t, ⟨(hS' p t).mpr (Or.inr ⟨rfl, rfl⟩), hcand, fun p' t' h1 h2 => ?_⟩, rfl, rfl, rfl⟩⟩
      rcases (hS' p' t').mp h1 with z | z
      · exact absurd h2 (e2 p' t' z)
      · exact kself p' t' z
    · have hx := b.2.1.1
      have hu := b.2.1.2.1
      have hor := hord x u b.1
      have ord := call_order ho (t := t) (u := u) hp hx
      obtain ⟨m, i, l1, l2, l3⟩ := clN_ok ho p t
      obtain ⟨m', i', k1, k2, k3⟩ := clN_ok ho x u
      have c1' := (cdN_ok ho hp).2
      have c2' := (cdN_ok ho hx).2
      have av := (av_aw ho _ (Nat.le_refl (td τ))).2
      rw [if_neg (by rw [e1]; exact nI_ne_m9 (by omega)), e2, e3]
      simp only [nI_ltI (show td τ - clN τ x u / 10000 < 2 ^ 31 by omega) (show td τ - clN τ p t / 10000 < 2 ^ 31 by omega), nI_eq (show td τ - clN τ p t / 10000 < 2 ^ 31 by omega) (show td τ - clN τ x u / 10000 < 2 ^ 31 by omega), nI_leI (show avN τ (td τ) + clN τ x u % 10000 + cdN τ x < 2 ^ 31 by omega) (show avN τ (td τ) + clN τ p t % 10000 + cdN τ p < 2 ^ 31 by omega)]
      have take : lsC τ p t < lsC τ x u → MB τ S' (nI (100 * p + t)) (nI (td τ - clN τ p t / 10000)) (nI (avN τ (td τ) + clN τ p t % 10000 + cdN τ p)) := fun lt => Or.inr ⟨p, t, ⟨(hS' p t).mpr (Or.inr ⟨rfl, rfl⟩), hcand, fun p' t' h1 h2 => by
        rcases (hS' p' t').mp h1 with z | z
        · have := b.2.2 p' t' z h2
          unfold kle at *
          omega
        · exact kself p' t' z⟩, rfl, rfl, rfl⟩
      have keep : ¬ lsC τ p t < lsC τ x u → MB τ S' v2 (nI (td τ - clN τ x u / 10000)) (nI (avN τ (td τ) + clN τ x u % 10000 + cdN τ x)) := fun lt => Or.inr ⟨x, u, ⟨(hS' x u).mpr (Or.inl b.1), b.2.1, fun p' t' h1 h2 => by
        rcases (hS' p' t').mp h1 with z | z
        · exact b.2.2 p' t' z h2
        · rw [z.1, z.2]; unfold kle; omega⟩, e1, rfl, rfl⟩
      by_cases z1 : td τ - clN τ x u / 10000 < td τ - clN τ p t / 10000
      · rw [if_pos z1]
        exact ⟨_, _, _, _, rfl, frN, take (ord.mp (Or.inl z1))⟩
      · rw [if_neg z1]
        by_cases z2 : td τ - clN τ p t / 10000 = td τ - clN τ x u / 10000
        · rw [if_pos z2]
          by_cases z3 : avN τ (td τ) + clN τ x u % 10000 + cdN τ x ≤ avN τ (td τ) + clN τ p t % 10000 + cdN τ p
          · rw [if_pos z3]
            exact ⟨_, _, _, _, rfl, frN, keep (fun y => by have := ord.mpr y; omega)⟩
          · rw [if_neg z3]
            exact ⟨_, _, _, _, rfl, frN, take (ord.mp (Or.inr ⟨z2, by omega⟩))⟩
        · rw [if_neg z2]
          exact ⟨_, _, _, _, rfl, frN, keep (fun y => by have := ord.mpr y; omega)⟩
  · rw [if_neg (by decide), nI_1]
    refine ⟨_, _, _, _, rfl, fr, ?_⟩
    have nc : ∀ p' t', p' = p ∧ t' = t → ¬ cand τ p' t' := fun p' t' e z => by
      rw [e.1, e.2] at z
      have := z.2.2
      rw [q] at this
      exact absurd this (by decide)
    rcases hB with ⟨e1, e2⟩ | ⟨x, u, b, e1, e2, e3⟩
    · refine Or.inl ⟨e1, fun p' t' z => ?_⟩
      rcases (hS' p' t').mp z with y | y
      · exact e2 p' t' y
      · exact nc p' t' y
    · refine Or.inr ⟨x, u, ⟨(hS' x u).mpr (Or.inl b.1), b.2.1, fun p' t' z z2 => ?_⟩, e1, e2, e3⟩
      rcases (hS' p' t').mp z with y | y
      · exact b.2.2 p' t' y z2
      · exact absurd z2 (nc p' t' y)
theorem mcall_p {τ s : pS} (ho : Ro τ) (fr : FR τ s) {p : Nat} (hp : p < tn τ) {v2 v3 v4 : Int32} (hB : MB τ (fun p' _ => p' < p) v2 v3 v4) (a : Int32) (k : Int32 → Int32 → Int32 → pS → Option (Int32 × pS)) : ∃ w2 w3 w4 s', lX5_call_34 a (nI p) k FU v2 v3 v4 (nI 0) s = k w2 w3 w4 s' ∧ FR τ s' ∧ MB τ (fun p' _ => p' < p + 1) w2 w3 w4 := by
  refine whP (fun F (b : Int32 × Int32 × Int32 × pS) v => lX5_call_34 a (nI p) k F b.1 b.2.1 b.2.2.1 v b.2.2.2) (n := 12) (by decide) (fun j b => FR τ b.2.2.2 ∧ MB τ (fun p' t' => p' < p ∨ (p' = p ∧ t' < j)) b.1 b.2.1 b.2.2.1) (fun o => ∃ w2 w3 w4 s', o = k w2 w3 w4 s' ∧ FR τ s' ∧ MB τ (fun p' _ => p' < p + 1) w2 w3 w4) (v2, v3, v4, s) ⟨fr, ?_⟩ (fun F b hb => ⟨b.1, b.2.1, b.2.2.1, b.2.2.2, ?_, hb.1, ?_⟩) (fun F b j hj hb => Or.inl ?_)
  · have : (fun (p' t' : Nat) => p' < p ∨ (p' = p ∧ t' < 0)) = fun p' _ => p' < p := by
      funext p' t'
      exact propext ⟨fun z => by omega, fun z => by omega⟩
    rw [this]; exact hB
  · show lX5_call_34 _ _ _ (F + 1) _ _ _ _ _ = _
    rw [lX5_call_34.eq_2, if_pos (show (12 : Int32) ≤ nI 12 by decide)]
  · rcases hb.2 with ⟨e1, e2⟩ | ⟨x, u, b', e1, e2, e3⟩
    · exact Or.inl ⟨e1, fun p' t' z y => e2 p' t' (by have := y.2.1; omega) y⟩
    · exact Or.inr ⟨x, u, ⟨by have := b'.1; omega, b'.2.1, fun p' t' z y => b'.2.2 p' t' (by have := y.2.1; omega) y⟩, e1, e2, e3⟩
  · obtain ⟨w2, w3, w4, s', g1, g2, g3⟩ := mcall_step (S' := fun p' t' => p' < p ∨ (p' = p ∧ t' < j + 1)) ho hb.1 hp hj hb.2 (fun p' t' => by
      constructor
      · intro z; omega
      · intro z; omega) (fun p' t' z => z) a k F
    exact ⟨(w2, w3, w4, s'), g1, g2, g3⟩
theorem bst_uniq {τ : pS} {p t q u : Nat} (h1 : bstC τ (fun _ _ => True) p t) (h2 : bstC τ (fun _ _ => True) q u) : p = q ∧ t = u := by
  have a := h1.2.2 q u trivial h2.2.1
  have b := h2.2.2 p t trivial h1.2.1
  unfold kle at a b
  omega
theorem mcall_eq {τ s : pS} (ho : Ro τ) (fr : FR τ s) (a : Int32) (k : Int32 → Int32 → pS → Option (Int32 × pS)) : ∃ w2 w4 s', lX5_call_22 a k FU (-9) 0 0 (nI 0) s = k w2 w4 s' ∧ FR τ s' ∧ ((w2 = -9 ∧ ∀ p t, ¬ cand τ p t) ∨ ∃ p t, bstC τ (fun _ _ => True) p t ∧ w2 = nI (100 * p + t) ∧ w4 = nI (avN τ (td τ) + clN τ p t % 10000 + cdN τ p)) := by
  have o1 := ho.1
  refine whP (fun F (b : Int32 × Int32 × Int32 × pS) v => lX5_call_22 a k F b.1 b.2.1 b.2.2.1 v b.2.2.2) (n := tn τ) (by omega) (fun j b => FR τ b.2.2.2 ∧ MB τ (fun p' _ => p' < j) b.1 b.2.1 b.2.2.1) (fun o => ∃ w2 w4 s', o = k w2 w4 s' ∧ FR τ s' ∧ ((w2 = -9 ∧ ∀ p t, ¬ cand τ p t) ∨ ∃ p t, bstC τ (fun _ _ => True) p t ∧ w2 = nI (100 * p + t) ∧ w4 = nI (avN τ (td τ) + clN τ p t % 10000 + cdN τ p))) (-9, 0, 0, s) ⟨fr, Or.inl ⟨rfl, fun p t z => absurd z (Nat.not_lt_zero p)⟩⟩ (fun F b hb => ⟨b.1, b.2.2.1, b.2.2.2, ?_, hb.1, ?_⟩) (fun F b j hj hb => Or.inl ?_)
  · show lX5_call_22 _ _ (F + 1) _ _ _ _ _ = _
    rw [lX5_call_22.eq_2, hb.1.1 0 10 (by decide) (by decide) (by decide), ho.2.2.1, if_pos (nI_le (Nat.le_refl _) (by omega))]
  · rcases hb.2 with ⟨e1, e2⟩ | ⟨x, u, b', e1, e2, e3⟩
    · exact Or.inl ⟨e1, fun p t z => e2 p t z.1 z⟩
    · exact Or.inr ⟨x, u, ⟨trivial, b'.2.1, fun p' t' _ y => b'.2.2 p' t' y.1 y⟩, e1, e3⟩
  · obtain ⟨w2, w3, w4, s', g1, g2, g3⟩ := mcall_p ho hb.1 hj hb.2 a (fun (y20 : Int32) (y21 : Int32) (y22 : Int32) (σ23 : pS) => lX5_call_22 a k F y20 y21 y22 (nI j + (1 : Int32)) σ23)
    refine ⟨(w2, w3, w4, s'), ?_, g2, g3⟩
    show lX5_call_22 _ _ (F + 1) _ _ _ _ _ = lX5_call_22 _ _ F _ _ _ _ _
    rw [lX5_call_22.eq_2, hb.1.1 0 10 (by decide) (by decide) (by decide), ho.2.2.1, if_neg (nI_nge (by omega) (by omega))]
    refine g1.trans ?_
    rw [nI_1]
theorem o_call : op_call RR := by
  intro σ τ h
  unfold fX4_call fX5_call
  have ho := h.2.2.2.2.1
  have o1 := ho.1
  have o2 := ho.2.1
  obtain ⟨σ3, s1, s2, s3, s4, s5⟩ := solve_eq h
  obtain ⟨r, σ6, e1, e2, e3⟩ := findCall_eq s3 s4 s5
  have R6 : RR σ6 τ := RR_FX s3 (FC_FX (vl_ge s3.2.2.2.1) e2)
  obtain ⟨τ3, m1, m2, m3⟩ := layRounds_eq ho (e := 12) (by decide)
  have ok12 : lossOk τ (Lo (dpO τ) (mayS τ) 12 0 0) := Lo_ok ho _ (by decide)
  have c12 : pI τ3 12 0 = nI (awN τ 0 (td τ)) - nI (Lo (dpO τ) (mayS τ) 12 0 0) := (m3 0 (Nat.le_refl _) (Nat.zero_le _) 0 (Nat.two_pow_pos _)).1
  have ll := LoO_lt ho (mayS τ) 12 0 0
  obtain ⟨w2, w4, τ9, n1, n2, n3⟩ := mcall_eq ho (FB_FR m2) (nI (avN τ (td τ) + Lo (dpO τ) (mayS τ) 12 0 0 % 10000)) (fun (y24 : Int32) (y25 : Int32) (σ26 : pS) => if y24 = (-9 : Int32) then some ((-9 : Int32), σ26) else pbind (fX5_tells σ26 (nI (avN τ (td τ) + Lo (dpO τ) (mayS τ) 12 0 0 % 10000) - y25) y24) fun r28 σ29 => some (r28, σ29))
  have R9 : RR σ6 τ9 := RR_FM R6 (FR_FM n2)
  rw [s1, pbind_some, e1, pbind_some, show (12 : Int32) = nI 12 from rfl, m1, pbind_some, bestCost_eq ho ok12 c12, obind_some]
  have hl6 : LTX σ6 τ (mayS τ) 0 := fun x x1 x2 y hy => by rw [e2.1 _ _ (by omega) (by omega)]; exact s5 x x1 x2 y hy
  rcases e3 with ⟨r0, nc⟩ | ⟨r1, p, t, b, c1, c2, c3⟩
  · rcases n3 with ⟨q1, q2⟩ | ⟨p, t, b, _⟩
    · refine ⟨-9, σ6, τ9, by rw [if_pos r0], n1.trans (if_pos q1), R9⟩
    · exact absurd b.2.1 (nc p t)
  · rcases n3 with ⟨q1, q2⟩ | ⟨p', t', b', q1, q2⟩
    · exact absurd b.2.1 (q2 p t)
    · obtain ⟨rfl, rfl⟩ := bst_uniq b b'
      have hpn := b.2.1.1
      have htn := b.2.1.2.1
      obtain ⟨m, i, l1, l2, l3⟩ := clN_ok ho p t
      have cd := (cdN_ok ho hpn).2
      have lsm : lsC τ p t % 10000 = clN τ p t % 10000 + cdN τ p := by unfold lsC; omega
      have lsl : lsC τ p t < 2 ^ 31 := by unfold lsC; omega
      refine ⟨nI (100 * p + t), sI σ6 0 9 (nI (Lo (dpO τ) (mayS τ) 12 0 0 % 10000) - nI (lsC τ p t % 10000)), sI τ9 0 2 (nI (Lo (dpO τ) (mayS τ) 12 0 0 % 10000) - nI (lsC τ p t % 10000)), ?_, ?_, RR_told R9 _⟩
      · rw [if_neg (by rw [r1]; decide), leastLoss_eq hl6, obind_some, interestOf_eq (by omega), obind_some, c1, interestOf_eq lsl, obind_some, plet_eq, pI_sI_ne (by decide), pI_sI_ne (by decide), c2, c3, show (100 : Int32) = nI 100 from rfl, pk_mul, nI_add]
      · refine n1.trans ?_
        rw [if_neg (by rw [q1]; exact nI_ne_m9 (by omega)), q1, q2, tells_eq, pbind_some, lsm, Nat.add_assoc, nI_sub_l]
