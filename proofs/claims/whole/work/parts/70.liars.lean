/-! PURE: must, liars, family -/
theorem o_must : op_must RR := by
  intro σ τ a b h
  unfold fX4_must fX5_must
  rw [hV h, if_pos rfl]
  rcases isRow_cases a with ⟨h1, h2⟩ | ⟨r, hr, rfl, h1, h2⟩
  · rw [h2, obind_some, if_pos rfl]
    rcases isOne_cases h b with ⟨g1, g2⟩ | ⟨p, hp, rfl, g1, g2⟩
    · have g1 : fX3_isPerson σ (pR σ 0 8) b = some 0 := g1
      exact ⟨-1, σ, τ, by rw [g1]; rfl, rfl, h⟩
    · have g1 : fX3_isPerson σ (pR σ 0 8) (nI p) = some 1 := g1
      refine ⟨-1, σ, τ, ?_, rfl, h⟩
      unfold fX4_refuseRound
      rw [g1, h1]
      rfl
  rw [h2, obind_some, if_neg i10]
  rcases isOne_cases h b with ⟨g1, g2⟩ | ⟨p, hp, rfl, g1, g2⟩
  · have g1 : fX3_isPerson σ (pR σ 0 8) b = some 0 := g1
    exact ⟨-1, σ, τ, by rw [g1]; rfl, by rw [g2]; rfl, h⟩
  have g1 : fX3_isPerson σ (pR σ 0 8) (nI p) = some 1 := g1
  rw [g1, g2, obind_some, obind_some, if_neg i10, if_neg i10]
  have hl : ∀ τ1, RR σ τ1 → tn τ1 = tn τ := fun τ1 hR => by
    have e1 := hPn h
    have e2 := hPn hR
    rw [e1] at e2
    have o1 := hN6 h
    have o1' := hN6 hR
    exact ((nI_eq (by omega) (by omega)).mp e2).symm
  rcases round_cases h hr with ⟨f, hf, g1, g2⟩ | ⟨τ1, g1, g2, hR, hrow⟩
  · rw [g1, g2]
    simp only [pbind_some, z3n, z3e, if_false]
    exact ⟨-3, _, _, rfl, rfl, RR_find h hf⟩
  rw [g1, g2]
  have hp1 : p < tn τ1 := by rw [hl τ1 hR]; exact hp
  simp only [pbind_some, z0l, if_true, pin_lit hr (show 6 ≤ 2 ^ 31 by decide), nI_clamp (show r < 2 ^ 31 by omega), xmust_eq hR hr hrow hp1, mmust_eq hR.2.2.2.2.1 (fun d hd => (hrow d hd).2) hp1, obind_some]
  exact ⟨_, _, _, rfl, rfl, hR⟩
def liarN (τ : pS) (p : Nat) : Nat := diff (mustN τ p (td τ)) (outN τ p)
theorem diff_le (a b : Nat) : diff a b ≤ a := by
  have h : diff a b &&& a = diff a b := by
    apply Nat.eq_of_testBit_eq
    intro i
    rw [Nat.testBit_and, diff_bit]
    cases a.testBit i <;> simp
  rw [← h]
  exact Nat.and_le_right
def popS (f : Nat → Nat) : Nat → Nat
  | 0 => 0
  | n + 1 => popS f n + pop (f n)
theorem pop_0 : pop 0 = 0 := by decide
theorem xliars_eq {σ τ : pS} (h : RR σ τ) {r : Nat} (hr : r < 6) (hrow : ∀ d, d < td τ → pI σ (20 + r) d = pI τ 11 d ∧ okH (pI τ 11 d)) (k : Int32 → Int32 → Option (Int32 × pS)) : lX4_liars_20 σ (nI r) k FU 0 0 0 = k (nI (bset (fun p => decide (¬ liarN τ p = 0)) (tn τ))) (nI (popS (liarN τ) (tn τ))) := by
  have o1 := hN6 h
  have ho := h.2.2.2.2.1
  refine whF (fun F (a : Int32 × Int32) v => lX4_liars_20 σ (nI r) k F a.1 a.2 v) (n := tn τ) (by omega) (fun j => (nI (bset (fun p => decide (¬ liarN τ p = 0)) j), nI (popS (liarN τ) j))) _ (fun F => ?_) (fun F j hj => ?_)
  · show lX4_liars_20 σ _ _ (F + 1) _ _ _ = _
    rw [lX4_liars_20.eq_2, hV h, hPn h, if_pos rfl, if_pos (nI_le (Nat.le_refl _) (by omega))]
  · show lX4_liars_20 σ _ _ (F + 1) _ _ _ = _
    have ml := mustN_lt (p := j) (td τ) (fun d hd => (hrow d hd).2)
    have dl := diff_le (mustN τ j (td τ)) (outN τ j)
    have ll : liarN τ j < 4096 := Nat.lt_of_le_of_lt dl ml
    rw [lX4_liars_20.eq_2, hV h, hPn h, if_pos rfl, if_neg (nI_nge (by omega) (by omega)), pin_lit hr (by decide), pin_lit (show j < 6 by omega) (by decide), nI_clamp (by omega), nI_clamp (by omega), xmust_eq h hr hrow hj, hO h hj]
    simp only [if_true, plet_eq, obind_some, nI_1, q_not]
    rw [show diff (mustN τ j (td τ)) (outN τ j) = liarN τ j from rfl, bitc_eq ll, obind_some, nI_add]
    simp only [nI_lit (show liarN τ j < 2 ^ 31 by omega) (show 0 < 2 ^ 31 by decide) (show (0 : Int32) = nI 0 from rfl)]
    by_cases q : liarN τ j = 0
    · rw [if_pos q, bset_f (f := fun p => decide (¬ liarN τ p = 0)) (by simp [q]), show popS (liarN τ) (j + 1) = popS (liarN τ) j by show _ + pop (liarN τ j) = _; rw [q, pop_0]; rfl]
    · rw [if_neg q, bset_t (f := fun p => decide (¬ liarN τ p = 0)) (by omega) (by simp [q])]
      rfl
theorem mliars_eq {τ : pS} (ho : Ro τ) (hrow : ∀ d, d < td τ → okH (pI τ 11 d)) (k : Int32 → Int32 → Option (Int32 × pS)) : lX5_liars_29 τ k FU 0 0 0 = k (nI (bset (fun p => decide (¬ liarN τ p = 0)) (tn τ))) (nI (popS (liarN τ) (tn τ))) := by
  have o1 := ho.1
  refine whF (fun F (a : Int32 × Int32) v => lX5_liars_29 τ k F a.1 a.2 v) (n := tn τ) (by omega) (fun j => (nI (bset (fun p => decide (¬ liarN τ p = 0)) j), nI (popS (liarN τ) j))) _ (fun F => ?_) (fun F j hj => ?_)
  · show lX5_liars_29 τ _ (F + 1) _ _ _ = _
    rw [lX5_liars_29.eq_2, ho.2.2.1, if_pos (nI_le (Nat.le_refl _) (by omega))]
  · show lX5_liars_29 τ _ (F + 1) _ _ _ = _
    have ml := mustN_lt (p := j) (td τ) hrow
    have dl := diff_le (mustN τ j (td τ)) (outN τ j)
    have ll : liarN τ j < 4096 := Nat.lt_of_le_of_lt dl ml
    rw [lX5_liars_29.eq_2, ho.2.2.1, if_neg (nI_nge (by omega) (by omega)), n4 2 (show (2 : Int32) = nI 2 from rfl), pin_lit (show 4 * j + 2 < 24 by omega) (by decide), nI_clamp (by omega), mmust_eq ho hrow hj, (outN_ok (ho.2.2.2.2.2.1 j hj)).1]
    simp only [if_true, plet_eq, obind_some, nI_1, q_not]
    rw [show diff (mustN τ j (td τ)) (outN τ j) = liarN τ j from rfl, bits_eq ll]
    simp only [obind_some, nI_add, nI_lit (show liarN τ j < 2 ^ 31 by omega) (show 0 < 2 ^ 31 by decide) (show (0 : Int32) = nI 0 from rfl)]
    by_cases q : liarN τ j = 0
    · rw [if_pos q, bset_f (f := fun p => decide (¬ liarN τ p = 0)) (by simp [q]), or_0]
      rfl
    · rw [if_neg q, bset_t (f := fun p => decide (¬ liarN τ p = 0)) (by omega) (by simp [q])]
      rfl
theorem o_liars : op_liars RR := by
  intro σ τ a h
  unfold fX4_liars fX5_liars
  rcases isRow_cases a with ⟨h1, h2⟩ | ⟨r, hr, rfl, h1, h2⟩
  · refine ⟨-1, σ, τ, ?_, by rw [h2]; rfl, h⟩
    unfold fX4_refuseRound
    rw [h1]
    rfl
  rw [h2, obind_some, if_neg i10]
  rcases round_cases h hr with ⟨f, hf, g1, g2⟩ | ⟨τ1, g1, g2, hR, hrow⟩
  · rw [g1, g2]
    simp only [pbind_some, z3n, z3e, if_false]
    exact ⟨-3, _, _, rfl, rfl, RR_find h hf⟩
  rw [g1, g2]
  simp only [pbind_some, z0l, if_true]
  rw [xliars_eq hR hr hrow, mliars_eq hR.2.2.2.2.1 (fun d hd => (hrow d hd).2)]
  simp only [plet_eq, tells_eq, pbind_some]
  exact ⟨_, _, _, rfl, rfl, RR_told hR _⟩
/-! family -/
def famN (τ : pS) (s : Nat) : Nat → Nat
  | 0 => 4095
  | n + 1 => if s.testBit n then famN τ s n &&& outN τ n else famN τ s n
theorem famN_bit (τ : pS) (s t : Nat) : ∀ n, ((famN τ s n).testBit t = true ↔ Nat.testBit 4095 t = true ∧ ∀ p, p < n → s.testBit p = true → outB τ t p = true)
  | 0 => by simp [famN]
  | n + 1 => by
    have ih := famN_bit τ s t n
    have key : (∀ p, p < n + 1 → s.testBit p = true → outB τ t p = true) ↔ (∀ p, p < n → s.testBit p = true → outB τ t p = true) ∧ (s.testBit n = true → outB τ t n = true) := by
      constructor
      · exact fun H => ⟨fun p hp => H p (by omega), H n (by omega)⟩
      · intro H p hp
        by_cases e : p = n
        · rw [e]; exact H.2
        · exact H.1 p (by omega)
    rw [key, ← and_assoc, ← ih, show famN τ s (n + 1) = if s.testBit n then famN τ s n &&& outN τ n else famN τ s n from rfl]
    cases hb : s.testBit n
    · simp
    · simp [Nat.testBit_and, outB]
theorem famN_lt (τ : pS) (s : Nat) : ∀ n, famN τ s n < 4096
  | 0 => by simp [famN]
  | n + 1 => by
    unfold famN
    have := famN_lt τ s n
    split
    · exact Nat.lt_of_le_of_lt Nat.and_le_left this
    · exact this
theorem and_eq_iff {a s n : Nat} (hs : s < 2 ^ n) : (a &&& s = s) ↔ ∀ p, p < n → s.testBit p = true → a.testBit p = true := by
  constructor
  · intro e p _ hp
    rw [← e, Nat.testBit_and] at hp
    cases h : a.testBit p
    · rw [h] at hp; simp at hp
    · rfl
  · intro H
    apply Nat.eq_of_testBit_eq
    intro i
    rw [Nat.testBit_and]
    cases hb : s.testBit i
    · simp
    · by_cases hi : i < n
      · rw [H i hi hb]; rfl
      · rw [Nat.testBit_lt_two_pow (Nat.lt_of_lt_of_le hs (pow_le31 (by omega)))] at hb
        exact absurd hb (by decide)
theorem fam_eq {τ : pS} {s N : Nat} (hN : N = 12) (hs : s < 2 ^ tn τ) : bset (fun t => decide (outS τ t &&& s = s)) N = famN τ s (tn τ) := by
  subst hN
  apply Nat.eq_of_testBit_eq
  intro t
  rw [bset_bit]
  apply Bool.eq_iff_iff.mpr
  rw [famN_bit]
  simp only [Bool.and_eq_true, decide_eq_true_eq, and_eq_iff hs]
  have t1 : (t < 12) ↔ Nat.testBit 4095 t = true := by
    constructor
    · intro ht; exact (dog_hours t ht).1
    · intro z
      by_cases ht : t < 12
      · exact ht
      · rw [Nat.testBit_lt_two_pow (Nat.lt_of_lt_of_le (show 4095 < 2 ^ 12 by decide) (pow_le31 (by omega)))] at z
        exact absurd z (by decide)
  rw [t1]
  constructor
  · exact fun H => ⟨H.1, fun p hp hb => by rw [← outS_bit hp]; exact H.2 p hp hb⟩
  · exact fun H => ⟨H.1, fun p hp hb => by rw [outS_bit hp]; exact H.2 p hp hb⟩
theorem pow6 {n : Nat} (h : n ≤ 6) : 2 ^ n ≤ 64 := pow_le31 (m := 6) h
theorem o_family : op_family RR := by
  intro σ τ a h
  have o1 := hN6 h
  have ho := h.2.2.2.2.1
  have p6 := pow6 o1
  obtain ⟨N, hN⟩ : ∃ N, N = 12 := ⟨12, rfl⟩
  have n12 : (12 : Int32) = nI N := by rw [hN]; rfl
  have e1 : ((1 : Int32) <<< (nI (tn τ) &&& 31)) = nI (2 ^ tn τ) := q_one (by omega)
  have hp1 : 1 ≤ 2 ^ tn τ := Nat.one_le_two_pow
  have e2 : nI (2 ^ tn τ) - 1 = nI (2 ^ tn τ - 1) := pk_sub (a := 2 ^ tn τ) (b := 1) hp1
  unfold fX4_family fX5_family
  rw [hV h, hPn h, ho.2.2.1, e1, e2]
  by_cases z : a ≤ 0
  · have z1 : a < 1 := by
      rw [Int32.lt_iff_toInt_lt]
      rw [Int32.le_iff_toInt_le] at z
      have e1 : (1 : Int32).toInt = 1 := by decide
      have e0 : (0 : Int32).toInt = 0 := by decide
      omega
    have e : ∀ c, fX5_in a 1 c = some 0 := fun c => by unfold fX5_in; rw [if_pos z1]
    exact ⟨-1, σ, τ, by rw [if_pos z], by rw [e]; rfl, h⟩
  rw [if_neg z, if_pos rfl]
  have z0 : ¬ a < 0 := fun q => z (by rw [Int32.le_iff_toInt_le]; rw [Int32.lt_iff_toInt_lt] at q; omega)
  obtain ⟨s, hs, rfl⟩ := nI_of z0
  have s1 : 1 ≤ s := by
    rcases Nat.eq_zero_or_pos s with e | e
    · subst e; exact absurd (show nI 0 ≤ (0 : Int32) by decide) z
    · exact e
  have z1 : ¬ nI s < 1 := nI_nlt (a := s) (b := 1) s1 hs
  by_cases q : s < 2 ^ tn τ
  · rw [if_pos (nI_lt q (by omega)), in_yes z1 (nI_nlt (by omega) (by omega)), obind_some, if_neg i10]
    have fl := famN_lt τ s (tn τ)
    refine ⟨nI (famN τ s (tn τ)), sI σ 0 9 (nI (pop (famN τ s (tn τ)))), sI τ 0 2 (nI (pop (famN τ s (tn τ)))), ?_, ?_, RR_told h _⟩
    · refine Eq.trans (whF (fun F (a : Int32) v => lX4_family_23 σ (nI s) _ F a v) (n := N) (by omega) (fun j => nI (bset (fun t => decide (outS τ t &&& s = s)) j)) ((fun (y6 : Int32) => (fJ6_bitCount_0f7a4 y6).bind fun r8 => plet (sI σ 0 9 r8) fun σ9 => some (y6, σ9)) (nI (bset (fun t => decide (outS τ t &&& s = s)) N))) (fun F => ?_) (fun F j hj => ?_)) ?_
      · show lX4_family_23 σ _ _ (F + 1) _ _ = _
        rw [lX4_family_23.eq_2, n12, if_pos (nI_le (Nat.le_refl _) (by omega))]
      · show lX4_family_23 σ _ _ (F + 1) _ _ = _
        have ol := outS_lt ho j
        have al : outS τ j &&& s ≤ outS τ j := Nat.and_le_left
        rw [lX4_family_23.eq_2, n12, if_neg (nI_nge hj (by omega)), hV h, if_pos rfl, peopleOut_eq h (by omega), obind_some, q_and]
        simp only [nI_eq (show outS τ j &&& s < 2 ^ 31 by omega) hs, plet_eq, nI_1]
        by_cases q2 : outS τ j &&& s = s
        · rw [if_pos q2, bset_t (f := fun t => decide (outS τ t &&& s = s)) (by omega) (by simp [q2])]
        · rw [if_neg q2, bset_f (f := fun t => decide (outS τ t &&& s = s)) (by simp [q2])]
      · show (fJ6_bitCount_0f7a4 (nI (bset (fun t => decide (outS τ t &&& s = s)) N))).bind _ = _
        rw [fam_eq hN q, bitc_eq fl]
        rfl
    · refine Eq.trans (whF (fun F (a : Int32) v => lX5_family_24 τ (nI s) _ F a v) (n := tn τ) (by omega) (fun j => nI (famN τ s j)) ((fun (y8 : Int32) => (fX5_bits y8).bind fun r10 => pbind (fX5_tells τ r10 y8) fun r12 σ13 => some (r12, σ13)) (nI (famN τ s (tn τ)))) (fun F => ?_) (fun F j hj => ?_)) ?_
      · show lX5_family_24 τ _ _ (F + 1) _ _ = _
        rw [lX5_family_24.eq_2, ho.2.2.1, if_pos (nI_le (Nat.le_refl _) (by omega))]
      · show lX5_family_24 τ _ _ (F + 1) _ _ = lX5_family_24 τ _ _ F (nI (if s.testBit j then famN τ s j &&& outN τ j else famN τ s j)) _
        rw [lX5_family_24.eq_2, ho.2.2.1, if_neg (nI_nge (by omega) (by omega)), has_eq hs (by omega), n4 2 (show (2 : Int32) = nI 2 from rfl), pin_lit (show 4 * j + 2 < 24 by omega) (by decide), nI_clamp (by omega), (outN_ok (ho.2.2.2.2.2.1 j hj)).1]
        simp only [obind_some, plet_eq, nI_1, if_true, q_and, b2i_0, Nat.and_self]
        cases s.testBit j <;> rfl
      · show (fX5_bits (nI (famN τ s (tn τ)))).bind _ = _
        rw [bits_eq fl]
        rfl
  · have q' : 2 ^ tn τ ≤ s := by omega
    exact ⟨-1, σ, τ, by rw [if_neg (nI_nlt q' hs)], by rw [in_big (nI_lt (by omega) hs)]; rfl, h⟩
