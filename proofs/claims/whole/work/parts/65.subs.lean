/-! PURE: subsets from the greatest down; sets of debts that fit; hour -/
theorem sub_next : ∀ (w m x : Nat), w &&& m = w → 0 < w → x &&& m = x → x < w → x ≤ (w - 1) &&& m := by
  intro w
  induction w using Nat.strongRecOn with
  | _ w ih =>
    intro m x hw h0 hx hl
    have hd : w / 2 &&& m / 2 = w / 2 := by rw [← Nat.and_div_two, hw]
    have xd : x / 2 &&& m / 2 = x / 2 := by rw [← Nat.and_div_two, hx]
    have hm1 := Nat.and_mod_two_eq_one (a := w) (b := m)
    have xm1 := Nat.and_mod_two_eq_one (a := x) (b := m)
    rw [hw] at hm1
    rw [hx] at xm1
    by_cases o : w % 2 = 1
    · have e2 : (w - 1) / 2 = w / 2 := by omega
      have ed : ((w - 1) &&& m) / 2 = w / 2 := by rw [Nat.and_div_two, e2, hd]
      omega
    · have e2 : (w - 1) / 2 = w / 2 - 1 := by omega
      have ed : ((w - 1) &&& m) / 2 = (w / 2 - 1) &&& (m / 2) := by rw [Nat.and_div_two, e2]
      have hi := ih (w / 2) (by omega) (m / 2) (x / 2) hd (by omega) xd (by omega)
      have hb := Nat.and_mod_two_eq_one (a := w - 1) (b := m)
      omega
/-- a submask below w is not above (w - 1) & m -/
theorem sub_gap {w m x : Nat} (hw : w &&& m = w) (h0 : 0 < w) (h1 : (w - 1) &&& m < x) (h2 : x < w) : ¬ x &&& m = x := fun hx => by
  have := sub_next w m x hw h0 hx h2
  omega
theorem and_sub_sub (a m : Nat) : (a &&& m) &&& m = a &&& m := by rw [Nat.and_assoc, Nat.and_self]
theorem whSub {α ρ : Type} (L : Nat → α → Int32 → Option ρ) (m : Nat) (J : Nat → α → Prop) (Q : Option ρ → Prop)
    (he : ∀ F a, J 0 a → Q (L (F + 1) a (nI 0)))
    (hg : ∀ n a, ¬ (n + 1) &&& m = n + 1 → J (n + 1) a → J n a)
    (hs : ∀ F a v, 0 < v → v &&& m = v → v ≤ m → J v a → ∃ a', L (F + 1) a (nI v) = L F a' (nI ((v - 1) &&& m)) ∧ J (v - 1) a') :
    ∀ (v : Nat) (F : Nat) (a : α), v < F → v &&& m = v → v ≤ m → J v a → Q (L F a (nI v)) := by
  have gap : ∀ (q u : Nat) (a : α), (∀ x, u < x → x ≤ u + q → ¬ x &&& m = x) → J (u + q) a → J u a := by
    intro q
    induction q with
    | zero => intro u a _ h; exact h
    | succ q ih =>
      intro u a hn h
      exact ih u a (fun x h1 h2 => hn x h1 (by omega)) (hg (u + q) a (hn (u + q + 1) (by omega) (by omega)) h)
  intro v
  induction v using Nat.strongRecOn with
  | _ v ih =>
    intro F a hF hv hm hJ
    obtain ⟨F, rfl⟩ : ∃ G, F = G + 1 := ⟨F - 1, by omega⟩
    rcases Nat.eq_zero_or_pos v with e | h0
    · subst e
      exact he F a hJ
    · obtain ⟨a', h1, h2⟩ := hs F a v h0 hv hm hJ
      rw [h1]
      have hl : (v - 1) &&& m ≤ v - 1 := Nat.and_le_left
      refine ih _ (by omega) F a' (by omega) (and_sub_sub _ _) Nat.and_le_right ?_
      refine gap (v - 1 - ((v - 1) &&& m)) _ a' (fun x q1 q2 => sub_gap hv h0 q1 (by omega)) ?_
      rw [show ((v - 1) &&& m) + (v - 1 - ((v - 1) &&& m)) = v - 1 by omega]
      exact h2
theorem whSubs {α ρ : Type} (L : Nat → α → Int32 → Option ρ) {m : Nat} (hm : m < 999) (J : Nat → α → Prop) (Q : Option ρ → Prop)
    (he : ∀ F a, J 0 a → Q (L (F + 1) a (nI 0)))
    (hg : ∀ n a, ¬ (n + 1) &&& m = n + 1 → J (n + 1) a → J n a)
    (hs : ∀ F a v, 0 < v → v &&& m = v → v ≤ m → J v a → ∃ a', L (F + 1) a (nI v) = L F a' (nI ((v - 1) &&& m)) ∧ J (v - 1) a')
    (a : α) (h0 : J m a) : Q (L FU a (nI m)) := whSub L m J Q he hg hs m FU a (by simp [FU]; omega) (Nat.and_self m) (Nat.le_refl m) h0
/-- a fold over the positive subsets of m up to n, from the greatest down -/
def dfold {α : Type} (st : Nat → α → α) (m : Nat) : Nat → α → α
  | 0, a => a
  | n + 1, a => dfold st m n (if (n + 1) &&& m = n + 1 then st (n + 1) a else a)
theorem whFold {α ρ : Type} (L : Nat → α → Int32 → Option ρ) {m : Nat} (hm : m < 999) (I : α → Prop) (st : Nat → α → α) (k : α → Option ρ)
    (he : ∀ F a, I a → L (F + 1) a (nI 0) = k a)
    (hs : ∀ F a v, 0 < v → v &&& m = v → v ≤ m → I a → L (F + 1) a (nI v) = L F (st v a) (nI ((v - 1) &&& m)) ∧ I (st v a)) (a : α) (hI : I a) : L FU a (nI m) = k (dfold st m m a) := by
  refine whSubs L hm (fun n b => dfold st m n b = dfold st m m a ∧ I b) (fun o => o = k (dfold st m m a)) (fun F b hb => ?_) (fun n b hn hb => ⟨?_, hb.2⟩) (fun F b v h0 hv hm' hb => ⟨st v b, (hs F b v h0 hv hm' hb.2).1, ?_, (hs F b v h0 hv hm' hb.2).2⟩) a ⟨rfl, hI⟩
  · rw [he F b hb.2, ← hb.1]; rfl
  · rw [← hb.1]
    show _ = dfold st m n (if (n + 1) &&& m = n + 1 then st (n + 1) b else b)
    rw [if_neg hn]
  · obtain ⟨w, rfl⟩ : ∃ w, v = w + 1 := ⟨v - 1, by omega⟩
    rw [← hb.1]
    show _ = dfold st m w (if (w + 1) &&& m = w + 1 then st (w + 1) b else b)
    rw [if_pos hv]
    rfl
theorem sub_pred {v m : Nat} (h0 : 0 < v) : (nI v - 1) &&& nI m = nI ((v - 1) &&& m) := by
  rw [show (1 : Int32) = nI 1 from rfl, pk_sub h0, q_and]
/-! fits -/
def setT (f : Nat → Nat) (s : Nat) : Nat → Nat
  | 0 => 0
  | n + 1 => setT f s n ||| (if s.testBit n then 2 ^ f n else 0)
theorem setT_bit (f : Nat → Nat) (s x : Nat) : ∀ n, (setT f s n).testBit x = (List.range n).any fun d => s.testBit d && decide (f d = x)
  | 0 => by simp [setT]
  | n + 1 => by
    unfold setT
    rw [Nat.testBit_or, setT_bit f s x n, List.range_succ, List.any_append]
    congr 1
    by_cases hb : s.testBit n = true
    · simp [hb, two_bit]
    · simp [hb]
theorem setT_lt {f : Nat → Nat} {s : Nat} : ∀ n, (∀ i, i < n → f i < 6) → setT f s n < 64
  | 0, _ => by simp [setT]
  | n + 1, h => by
    unfold setT
    refine Nat.or_lt_two_pow (n := 6) (setT_lt n (fun i hi => h i (by omega))) ?_
    split
    · exact Nat.pow_lt_pow_right (by decide) (h n (by omega))
    · decide
theorem fit_succ (τ : pS) (s n : Nat) : fitT τ s (n + 1) = (fitT τ s n && (List.range n).all fun e => !(s.testBit n && s.testBit e && clashT τ n e)) := by
  unfold fitT
  rw [List.range_succ, List.all_append]
  simp
theorem fit_step {τ : pS} (h : Ro τ) (s : Nat) {n : Nat} (hn : n < td τ) : fitT τ s (n + 1) = (fitT τ s n && (!(s.testBit n) || (!(setT (fN τ) s n).testBit (fN τ n) && !(setT (tN τ) s n).testBit (tN τ n)))) := by
  rw [fit_succ, setT_bit, setT_bit]
  congr 1
  cases hb : s.testBit n
  · simp
  · apply Bool.eq_iff_iff.mpr
    simp only [Bool.true_and, Bool.not_true, Bool.false_or, List.all_eq_true, List.mem_range, Bool.and_eq_true, Bool.not_eq_true', List.any_eq_false, Bool.and_eq_false_iff, decide_eq_false_iff_not, decide_eq_true_eq]
    constructor
    · intro H
      constructor
      · intro d hd q
        have := H d hd
        rw [q.1, clashT_N h hn (by omega)] at this
        unfold clashN at this
        simp [q.2] at this
      · intro d hd q
        have := H d hd
        rw [q.1, clashT_N h hn (by omega)] at this
        unfold clashN at this
        simp [q.2] at this
    · intro H e he
      cases hs : s.testBit e
      · exact Or.inl rfl
      · right
        rw [clashT_N h hn (by omega)]
        unfold clashN
        have h1 : ¬ fN τ n = fN τ e := fun z => H.1 e he ⟨hs, z.symm⟩
        have h2 : ¬ tN τ n = tN τ e := fun z => H.2 e he ⟨hs, z.symm⟩
        simp [h1, h2]
theorem mfits_eq {τ : pS} (h : Ro τ) {s : Nat} (hs : s < 2 ^ 31) : fX5_fits τ (nI s) = some (b2i (fitT τ s (td τ))) := by
  have o1 := h.1
  have o2 := h.2.1
  unfold fX5_fits
  refine whF (fun F (a : Int32 × Int32 × Int32) v => lX5_fits_10 τ (nI s) _ F a.1 a.2.1 a.2.2 v) (n := td τ) (by omega) (fun j => (nI (setT (fN τ) s j), nI (setT (tN τ) s j), b2i (fitT τ s j))) _ (fun F => ?_) (fun F j hj => ?_)
  · show lX5_fits_10 τ _ _ (F + 1) _ _ _ _ = _
    rw [lX5_fits_10.eq_2, h.2.2.2.1, if_pos (nI_le (Nat.le_refl _) (by omega)), if_pos (b2i_nar _)]
  · show lX5_fits_10 τ _ _ (F + 1) _ _ _ _ = _
    obtain ⟨⟨a1, a2⟩, ⟨b1, b2⟩, -⟩ := dN_ok h hj
    have l1 := setT_lt (f := fN τ) (s := s) j (fun i hi => by have := (dN_ok h (show i < td τ by omega)).1.2; omega)
    have l2 := setT_lt (f := tN τ) (s := s) j (fun i hi => by have := (dN_ok h (show i < td τ by omega)).2.1.2; omega)
    have e1 : nI (setT (fN τ) s j) ||| ((1 : Int32) <<< (nI (fN τ j) &&& 31)) = nI (setT (fN τ) s j ||| 2 ^ fN τ j) := by rw [q_one (by omega), q_or]
    have e2 : nI (setT (tN τ) s j) ||| ((1 : Int32) <<< (nI (tN τ j) &&& 31)) = nI (setT (tN τ) s j ||| 2 ^ tN τ j) := by rw [q_one (by omega), q_or]
    rw [lX5_fits_10.eq_2, h.2.2.2.1, if_neg (nI_nge (by omega) (by omega)), has_eq hs (by omega), debt0 h hj, debt1 h hj]
    simp only [obind_some, plet_eq, nI_1, e1, e2, has_eq (show setT (fN τ) s j < 2 ^ 31 by omega) (show fN τ j < 32 by omega), has_eq (show setT (tN τ) s j < 2 ^ 31 by omega) (show tN τ j < 32 by omega), b2i_0]
    rw [fit_step h s hj]
    cases hb : s.testBit j
    · rw [if_pos rfl, show setT (fN τ) s (j + 1) = setT (fN τ) s j by simp [setT, hb], show setT (tN τ) s (j + 1) = setT (tN τ) s j by simp [setT, hb]]
      simp
    · rw [show setT (fN τ) s (j + 1) = setT (fN τ) s j ||| 2 ^ fN τ j by simp [setT, hb], show setT (tN τ) s (j + 1) = setT (tN τ) s j ||| 2 ^ tN τ j by simp [setT, hb]]
      cases fitT τ s j <;> cases (setT (fN τ) s j).testBit (fN τ j) <;> cases (setT (tN τ) s j).testBit (tN τ j) <;> rfl
/-! the most that can be paid at once -/
def mostSt (τ : pS) (v a : Nat) : Nat := if fitT τ v (td τ) then max a (pop v) else a
def mostOf (τ : pS) (m : Nat) : Nat := dfold (mostSt τ) m m 0
theorem pow8 {n : Nat} (h : n ≤ 8) : 2 ^ n ≤ 256 := pow_le31 (m := 8) h
theorem mostSt_le {τ : pS} {v a : Nat} (h : a ≤ 12) : mostSt τ v a ≤ 12 := by
  unfold mostSt
  have := pop_le v
  split
  · omega
  · exact h
theorem nI_n0 {v : Nat} (h0 : 0 < v) (h : v < 2 ^ 31) : ¬ nI v ≤ 0 := nI_nge (a := 0) (b := v) h0 h
theorem nI_max {a b : Nat} (ha : a < 2 ^ 31) (hb : b < 2 ^ 31) : (if nI a < nI b then nI b else nI a) = nI (max a b) := by
  by_cases z : a < b
  · rw [if_pos (nI_lt z hb), Nat.max_eq_right (by omega)]
  · rw [if_neg (nI_nlt (by omega) ha), Nat.max_eq_left (by omega)]
theorem xmost_eq {σ τ : pS} (h : RR σ τ) {m : Nat} (hm : m < 2 ^ td τ) : fX2_mostAtOnce σ (nI m) = some (nI (mostOf τ m)) := by
  have o2 := hD8 h
  have hp := pow8 o2
  obtain ⟨r1, r2, r3⟩ := h.2.2.2.2.2.2
  unfold fX2_mostAtOnce
  have em : m &&& (2 ^ td τ - 1) = m := by rw [Nat.and_two_pow_sub_one_eq_mod, Nat.mod_eq_of_lt hm]
  rw [r2, q_and, em, plet_eq]
  refine whFold (fun F (a : Nat) v => lX2_mostAtOnce_9 σ (nI m) (fun y3 => some y3) F (nI a) v) (m := m) (by omega) (fun a => a ≤ 12) (mostSt τ) (fun a => some (nI a)) (fun F a _ => ?_) (fun F a v h0 hv hl ha => ⟨?_, mostSt_le ha⟩) 0 (by decide)
  · show lX2_mostAtOnce_9 σ _ _ (F + 1) _ _ = _
    rw [lX2_mostAtOnce_9.eq_2, if_pos (by decide)]
  · show lX2_mostAtOnce_9 σ _ _ (F + 1) _ _ = lX2_mostAtOnce_9 σ _ _ F _ _
    have pl := pop_le v
    rw [lX2_mostAtOnce_9.eq_2, if_neg (nI_n0 h0 (by omega)), pin_lit (show v < 256 by omega) (by decide), nI_clamp (by omega), (r3 v (by omega)).1, bitc_eq (by omega)]
    simp only [if_true, plet_eq, obind_some, sub_pred h0, b2i_0, nI_max (show a < 2 ^ 31 by omega) (show pop v < 2 ^ 31 by omega)]
    unfold mostSt
    cases q : fitT τ v (td τ)
    · simp
    · simp
theorem mmost_eq {τ : pS} (h : Ro τ) {t : Nat} (ht : t < 12) : fX5_atOnce τ (nI t) = some (nI (mostOf τ (mayS τ t))) := by
  have o2 := h.2.1
  have hl := mayS_lt h t
  unfold fX5_atOnce
  rw [payable_eq h ht, obind_some]
  refine whFold (fun F (a : Nat) v => lX5_atOnce_11 τ (nI (mayS τ t)) (fun y3 => some y3) F (nI a) v) (m := mayS τ t) (by omega) (fun a => a ≤ 12) (mostSt τ) (fun a => some (nI a)) (fun F a _ => ?_) (fun F a v h0 hv hl ha => ⟨?_, mostSt_le ha⟩) 0 (by decide)
  · show lX5_atOnce_11 τ _ _ (F + 1) _ _ = _
    rw [lX5_atOnce_11.eq_2, if_pos (by decide)]
  · show lX5_atOnce_11 τ _ _ (F + 1) _ _ = lX5_atOnce_11 τ _ _ F _ _
    have pl := pop_le v
    rw [lX5_atOnce_11.eq_2, if_neg (nI_n0 h0 (by omega)), bits_eq (by omega)]
    simp only [plet_eq, obind_some, sub_pred h0, mfits_eq h (show v < 2 ^ 31 by omega), b2i_0, nI_leI (show pop v < 2 ^ 31 by omega) (show a < 2 ^ 31 by omega)]
    unfold mostSt
    cases q : fitT τ v (td τ)
    · simp
    · by_cases z : pop v ≤ a
      · simp [z, Nat.max_eq_left z]
      · simp [z, Nat.max_eq_right (show a ≤ pop v by omega)]
theorem o_hour : op_hour RR := by
  intro σ τ a h
  have ho := h.2.2.2.2.1
  unfold fX4_hour fX5_hour
  rcases isHour_cases a with ⟨g1, g2⟩ | ⟨t, ht, rfl, g1, g2⟩
  · exact ⟨-1, σ, τ, by rw [g1]; rfl, by rw [g2]; rfl, h⟩
  refine ⟨nI (mayS τ t), sI σ 0 9 (nI (mostOf τ (mayS τ t))), sI τ 0 2 (nI (mostOf τ (mayS τ t))), ?_, ?_, RR_told h _⟩
  · rw [g1, obind_some, if_neg i10, hV h, if_pos rfl, peopleOut_eq h ht, obind_some, xmay_eq h ht, obind_some, xmost_eq h (m := mayS τ t) (bset_lt _ _)]
    rfl
  · rw [g2, obind_some, if_neg i10, mmost_eq ho ht, payable_eq ho ht]
    rfl
