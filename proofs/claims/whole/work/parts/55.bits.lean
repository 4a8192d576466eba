/-! PURE: bits of small numbers (some rows after kit/laws/BITS, NUMBERS) -/
theorem q_and (a b : Nat) : nI a &&& nI b = nI (a &&& b) := by
  apply Int32.toBitVec_inj.1
  show BitVec.ofNat 32 a &&& BitVec.ofNat 32 b = BitVec.ofNat 32 (a &&& b)
  apply BitVec.eq_of_getLsbD_eq
  intro i hi
  simp [hi]
theorem q_or (a b : Nat) : nI a ||| nI b = nI (a ||| b) := by
  apply Int32.toBitVec_inj.1
  show BitVec.ofNat 32 a ||| BitVec.ofNat 32 b = BitVec.ofNat 32 (a ||| b)
  apply BitVec.eq_of_getLsbD_eq
  intro i hi
  simp [hi]
theorem q_xor (a b : Nat) : nI a ^^^ nI b = nI (a ^^^ b) := by
  apply Int32.toBitVec_inj.1
  show BitVec.ofNat 32 a ^^^ BitVec.ofNat 32 b = BitVec.ofNat 32 (a ^^^ b)
  apply BitVec.eq_of_getLsbD_eq
  intro i hi
  simp [hi]
/-- a without b -/
def diff (a b : Nat) : Nat := a ^^^ (a &&& b)
theorem diff_bit (a b i : Nat) : (diff a b).testBit i = (a.testBit i && !b.testBit i) := by
  unfold diff
  rw [Nat.testBit_xor, Nat.testBit_and]
  cases a.testBit i <;> cases b.testBit i <;> rfl
theorem q_not (a b : Nat) : nI a &&& (nI b ^^^ (-1)) = nI (diff a b) := by
  have e : (-1 : Int32).toBitVec = BitVec.allOnes 32 := by decide
  apply Int32.toBitVec_inj.1
  rw [Int32.toBitVec_and, Int32.toBitVec_xor, e]
  show BitVec.ofNat 32 a &&& (BitVec.ofNat 32 b ^^^ BitVec.allOnes 32) = BitVec.ofNat 32 (diff a b)
  apply BitVec.eq_of_getLsbD_eq
  intro i hi
  rw [BitVec.getLsbD_and, BitVec.getLsbD_xor, BitVec.getLsbD_allOnes, BitVec.getLsbD_ofNat, BitVec.getLsbD_ofNat, BitVec.getLsbD_ofNat, diff_bit]
  simp only [hi, decide_true, Bool.true_and, Bool.xor_true]
theorem q_sl : ∀ n, n < 32 → ((nI n &&& 31).toBitVec.smod 32).toNat = n := by decide +kernel
theorem q_shl {b t : Nat} (ht : t < 32) (h : b * 2 ^ t < 2 ^ 32) : nI b <<< (nI t &&& 31) = nI (b * 2 ^ t) := pk_shlN _ t (q_sl t ht) h
theorem q_one {t : Nat} (ht : t < 31) : (1 : Int32) <<< (nI t &&& 31) = nI (2 ^ t) := by
  have h2 : (2 : Nat) ^ t < 2 ^ 31 := Nat.pow_lt_pow_right (by decide) ht
  have := q_shl (b := 1) (t := t) (by omega) (by omega)
  rw [Nat.one_mul] at this
  exact this
theorem q_shr {a t : Nat} (ha : a < 2 ^ 31) (ht : t < 32) : nI a >>> (nI t &&& 31) = nI (a / 2 ^ t) := pk_shrN ha _ t (q_sl t ht)
theorem b2i_t : b2i true = 1 := rfl
theorem b2i_f : b2i false = 0 := rfl
theorem b2i_nar (b : Bool) : vp_nar .boolean (b2i b) = b2i b := by cases b <;> decide
theorem b2i_0 (b : Bool) : (b2i b = 0) = (b = false) := by cases b <;> simp [b2i]
theorem b2i_1 (b : Bool) : (b2i b = 1) = (b = true) := by cases b <;> simp [b2i]
theorem q_bit {a t : Nat} (ha : a < 2 ^ 31) (ht : t < 32) : (nI a >>> (nI t &&& 31)) &&& 1 = b2i (a.testBit t) := by
  rw [q_shr ha ht, show (1 : Int32) = nI 1 from rfl, q_and, Nat.and_one_is_mod, Nat.testBit_eq_decide_div_mod_eq]
  by_cases e : a / 2 ^ t % 2 = 1
  · rw [e]; simp [b2i]; rfl
  · rw [show a / 2 ^ t % 2 = 0 by omega]; simp [b2i]; rfl
theorem has_eq {a t : Nat} (ha : a < 2 ^ 31) (ht : t < 32) : fX5_has (nI a) (nI t) = some (b2i (a.testBit t)) := by
  unfold fX5_has
  rw [q_bit ha ht]
  cases a.testBit t <;> rfl
theorem holds_eq {a t : Nat} (ha : a < 2 ^ 31) (ht : t < 32) : fX3_holds (nI a) (nI t) = some (b2i (a.testBit t)) := by
  unfold fX3_holds
  rw [q_bit ha ht]
  cases a.testBit t <;> rfl
/-- the hours in which p is out, as a set -/
def outN (τ : pS) (p : Nat) : Nat := (pI τ 7 (4 * p + 2)).toNatClampNeg
theorem outN_ok {τ : pS} {p : Nat} (h : okP τ p) : pI τ 7 (4 * p + 2) = nI (outN τ p) ∧ outN τ p < 4096 := by
  obtain ⟨k, _, _, _, _, ⟨o, h1, h2⟩, _⟩ := h
  unfold outN
  rw [h2, nI_clamp (by omega)]
  exact ⟨rfl, h1⟩
theorem isOut_eq {τ : pS} {p t : Nat} (hp : p < 6) (h : okP τ p) (ht : t < 12) : fX5_isOut τ (nI p) (nI t) = some (b2i ((outN τ p).testBit t)) := by
  obtain ⟨e1, e2⟩ := outN_ok h
  unfold fX5_isOut
  rw [n4 2 (show (2 : Int32) = nI 2 from rfl), pin_lit (show 4 * p + 2 < 24 by omega) (by decide), nI_clamp (by omega), e1, has_eq (by omega) (by omega)]
  simp only [if_true, obind_some, b2i_nar]
theorem pow_lt12 {t : Nat} (h : t < 12) : 2 ^ t < 4096 := Nat.pow_lt_pow_right (a := 2) (m := t) (n := 12) (by decide) h
theorem two_bit (t i : Nat) : (2 ^ t).testBit i = decide (t = i) := Nat.testBit_two_pow
theorem set1_bit {o t : Nat} (b : Bool) (i : Nat) : (diff o (2 ^ t) ||| ((if b then 1 else 0) * 2 ^ t)).testBit i = if i = t then b else o.testBit i := by
  rw [Nat.testBit_or, diff_bit, two_bit]
  by_cases e : i = t
  · subst e
    cases b <;> simp [two_bit]
  · have e2 : ¬ t = i := fun z => e z.symm
    cases b <;> simp [e, e2, two_bit]
theorem hab_same {o t : Nat} {b : Bool} (h : o.testBit t = b) : diff o (2 ^ t) ||| ((if b then 1 else 0) * 2 ^ t) = o := by
  apply Nat.eq_of_testBit_eq
  intro i
  rw [set1_bit]
  by_cases e : i = t
  · rw [if_pos e, e, h]
  · rw [if_neg e]
theorem hab_diff {o t : Nat} {b : Bool} (h : o.testBit t = !b) : diff o (2 ^ t) ||| ((if b then 1 else 0) * 2 ^ t) = o ^^^ 2 ^ t := by
  apply Nat.eq_of_testBit_eq
  intro i
  rw [set1_bit, Nat.testBit_xor, two_bit]
  by_cases e : i = t
  · subst e
    rw [if_pos rfl, h]
    cases b <;> simp
  · rw [if_neg e]
    simp [show ¬ t = i from fun z => e z.symm]
theorem xor_lt {o t : Nat} (ho : o < 4096) (ht : t < 12) : o ^^^ 2 ^ t < 4096 := Nat.xor_lt_two_pow (n := 12) ho (pow_lt12 ht)
theorem o_habit : op_habit RR := by
  intro σ τ a t b h
  have v1 : isV (pR σ 0 8) = true := h.2.2.2.1.1
  obtain ⟨_, _, _, _, _, _, v7, _⟩ := h.2.2.2.1
  have o1 := h.2.2.2.2.1.1
  have o6 := h.2.2.2.2.1.2.2.2.2.2.1
  unfold fX4_habit fX5_habit
  rw [v1]
  rcases isOne_cases h a with ⟨g1, g2⟩ | ⟨p, hp, rfl, g1, g2⟩
  · have g1 : fX3_isPerson σ (pR σ 0 8) a = some 0 := g1
    exact ⟨-1, σ, τ, by rw [g1]; rfl, by rw [g2]; rfl, h⟩
  have g1 : fX3_isPerson σ (pR σ 0 8) (nI p) = some 1 := g1
  rw [g1, g2]
  simp only [obind_some, i10, if_false, if_true]
  rcases isHour_cases t with ⟨g1, g2⟩ | ⟨t, ht, rfl, g1, g2⟩
  · exact ⟨-1, σ, τ, by rw [g1]; rfl, by rw [g2]; rfl, h⟩
  rw [g1, g2]
  simp only [obind_some, i10, if_false]
  rcases rng b 1 (by decide) with g | ⟨c1, c2, c3⟩ | ⟨k, hk, rfl, c1, c2, c3⟩
  · exact ⟨-1, σ, τ, by rw [if_pos g], by rw [in_neg g]; rfl, h⟩
  · have c2 : ¬ b ≤ (1 : Int32) := c2
    have c3 : (1 : Int32) < b := c3
    exact ⟨-1, σ, τ, by rw [if_neg c1, if_neg c2], by rw [in_big c3]; rfl, h⟩
  have c2 : nI k ≤ (1 : Int32) := c2
  have c3 : ¬ (1 : Int32) < nI k := c3
  obtain ⟨e1, e2⟩ := outN_ok (o6 p hp)
  have w3 : pI σ (pR σ 0 8 + 3) p = nI (outN τ p) := ((v7 p hp).2.2.1).trans e1
  have hp6 : p < 6 := by omega
  have hpw := pow_lt12 ht
  have io := isOut_eq hp6 (o6 p hp) ht
  obtain ⟨bb, hbb⟩ : ∃ bb : Bool, k = (if bb then 1 else 0) := by
    rcases (show k = 0 ∨ k = 1 by omega) with rfl | rfl
    · exact ⟨false, rfl⟩
    · exact ⟨true, rfl⟩
  have hk2 : k * 2 ^ t < 2 ^ 32 := by
    rcases (show k = 0 ∨ k = 1 by omega) with rfl | rfl <;> omega
  rw [if_neg c1, if_pos c2, in_yes c1 c3]
  simp only [obind_some, i10, if_false, io, if_true, plet_eq, pin_lit hp6 (show 6 ≤ 2 ^ 31 by decide), nI_clamp (show p < 2 ^ 31 by omega), w3, q_bit (show outN τ p < 2 ^ 31 by omega) (show t < 32 by omega), q_one (show t < 31 by omega), q_not, q_shl (show t < 32 by omega) hk2, q_or, b2i_0, n4 2 (show (2 : Int32) = nI 2 from rfl), pin_lit (show 4 * p + 2 < 24 by omega) (show 24 ≤ 2 ^ 31 by decide), nI_clamp (show 4 * p + 2 < 2 ^ 31 by omega), e1, q_xor]
  have ek : nI k = b2i bb := by rw [hbb]; cases bb <;> rfl
  have eB : (if (outN τ p).testBit t = false then (if (0 : Int32) = nI k then some ((0 : Int32), τ) else some (0, sI τ 7 (4 * p + 2) (nI (outN τ p ^^^ 2 ^ t)))) else (if (1 : Int32) = nI k then some (1, τ) else some (1, sI τ 7 (4 * p + 2) (nI (outN τ p ^^^ 2 ^ t))))) = some (b2i ((outN τ p).testBit t), if (outN τ p).testBit t = bb then τ else sI τ 7 (4 * p + 2) (nI (outN τ p ^^^ 2 ^ t))) := by
    rw [ek]
    cases (outN τ p).testBit t <;> cases bb <;> rfl
  refine ⟨b2i ((outN τ p).testBit t), _, _, rfl, eB, ?_⟩
  by_cases e : (outN τ p).testBit t = bb
  · rw [if_pos e, hbb, hab_same e]
    have := RR_pset (j := 2) h hp (by omega) (x := nI (outN τ p)) ⟨fun _ => ⟨_, e2, rfl⟩, fun z => absurd z (by decide)⟩
    have et : sI τ 7 (4 * p + 2) (nI (outN τ p)) = τ := by
      rw [← e1]
      unfold sI pI
      refine Prod.ext (funext fun b => ?_) rfl
      show (if b = 7 then upd (τ.1 7) (4 * p + 2) (τ.1 7 (4 * p + 2)) else τ.1 b) = τ.1 b
      by_cases q : b = 7
      · rw [if_pos q, q]
        funext j
        unfold upd
        by_cases q2 : j = 4 * p + 2
        · rw [if_pos q2, q2]
        · rw [if_neg q2]
      · rw [if_neg q]
    rw [et] at this
    exact this
  · have e' : (outN τ p).testBit t = !bb := by cases bb <;> simp_all
    rw [if_neg e, hbb, hab_diff e']
    exact RR_pset (j := 2) h hp (by omega) ⟨fun _ => ⟨_, xor_lt e2 ht, rfl⟩, fun z => absurd z (by decide)⟩
