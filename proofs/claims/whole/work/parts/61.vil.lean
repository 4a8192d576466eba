/-! PURE: the village in numbers; who is out, which house is empty, which debt can be paid -/
def bset (f : Nat → Bool) : Nat → Nat
  | 0 => 0
  | n + 1 => bset f n ||| (if f n then 2 ^ n else 0)
theorem bset_bit (f : Nat → Bool) (i : Nat) : ∀ n, (bset f n).testBit i = (decide (i < n) && f i)
  | 0 => by simp [bset]
  | n + 1 => by
    unfold bset
    rw [Nat.testBit_or, bset_bit f i n]
    by_cases e : i = n
    · subst e
      cases hf : f i <;> simp [hf, two_bit]
    · have e2 : ¬ n = i := fun z => e z.symm
      have e3 : (i < n + 1) = (i < n) := by apply propext; omega
      cases hf : f n <;> simp [two_bit, e2, e3]
theorem bset_lt (f : Nat → Bool) (n : Nat) : bset f n < 2 ^ n := by
  apply Nat.lt_pow_two_of_testBit
  intro i hi
  rw [bset_bit]
  simp; omega
theorem bset_congr {f g : Nat → Bool} : ∀ n, (∀ i, i < n → f i = g i) → bset f n = bset g n
  | 0, _ => rfl
  | n + 1, h => by unfold bset; rw [bset_congr n (fun i hi => h i (by omega)), h n (by omega)]
theorem pow_le31 {n m : Nat} (h : n ≤ m) : 2 ^ n ≤ 2 ^ m := Nat.pow_le_pow_right (by decide) h
theorem bset_31 (f : Nat → Bool) {n : Nat} (h : n ≤ 12) : bset f n < 4096 := Nat.lt_of_lt_of_le (bset_lt f n) (pow_le31 (m := 12) h)
/-- one step of a set laid bit by bit -/
theorem bset_st {f : Nat → Bool} {n : Nat} (hn : n < 31) (b : Bool) (hb : f n = b) : (if b then nI (bset f n) ||| ((1 : Int32) <<< (nI n &&& 31)) else nI (bset f n)) = nI (bset f (n + 1)) := by
  rw [q_one hn]
  cases b
  · simp [bset, hb]
  · simp [bset, hb, q_or]
theorem bset_t {f : Nat → Bool} {n : Nat} (hn : n < 31) (hb : f n = true) : nI (bset f n) ||| ((1 : Int32) <<< (nI n &&& 31)) = nI (bset f (n + 1)) := bset_st hn true hb
theorem bset_f {f : Nat → Bool} {n : Nat} (hb : f n = false) : bset f (n + 1) = bset f n := by simp [bset, hb]
theorem or_0 (a : Int32) : a ||| 0 = a := Int32.or_zero
theorem bset_s (f : Nat → Bool) {n : Nat} (hn : n < 31) : nI (bset f n) ||| (b2i (f n) <<< (nI n &&& 31)) = nI (bset f (n + 1)) := by
  cases hb : f n
  · rw [bset_f hb]
    have h0 : (0 : Int32) <<< (nI n &&& 31) = nI (0 * 2 ^ n) := q_shl (b := 0) (t := n) (by omega) (by simp)
    rw [b2i_f, h0, Nat.zero_mul, show nI 0 = (0 : Int32) from rfl, or_0]
  · exact bset_t hn hb
def kN (τ : pS) (p : Nat) : Nat := (pI τ 7 (4 * p)).toNatClampNeg
def mN (τ : pS) (p : Nat) : Nat := (pI τ 7 (4 * p + 1)).toNatClampNeg
def fN (τ : pS) (d : Nat) : Nat := (pI τ 8 (5 * d)).toNatClampNeg
def tN (τ : pS) (d : Nat) : Nat := (pI τ 8 (5 * d + 1)).toNatClampNeg
def vN (τ : pS) (d : Nat) : Nat := (pI τ 8 (5 * d + 2)).toNatClampNeg
def iN (τ : pS) (d : Nat) : Nat := (pI τ 8 (5 * d + 3)).toNatClampNeg
def wN (τ : pS) : Nat := (pI τ 0 14).toNatClampNeg
theorem kN_ok {τ : pS} (h : Ro τ) {p : Nat} (hp : p < tn τ) : pI τ 7 (4 * p) = nI (kN τ p) ∧ kN τ p < 6 ∧ ((kN τ p = 3 ∨ kN τ p = 4) → pI τ 7 (4 * p + 1) = nI (mN τ p) ∧ mN τ p < tn τ) ∧ (¬ (kN τ p = 3 ∨ kN τ p = 4) → pI τ 7 (4 * p + 1) = -9) := by
  have o1 := h.1
  obtain ⟨k, h1, h2, h3, h4, _⟩ := h.2.2.2.2.2.1 p hp
  have e : kN τ p = k := by unfold kN; rw [h2, nI_clamp (by omega)]
  rw [e]
  refine ⟨h2, h1, fun z => ?_, h4⟩
  obtain ⟨m, m1, m2⟩ := h3 z
  unfold mN
  rw [m2, nI_clamp (by omega)]
  exact ⟨rfl, m1⟩
theorem dN_ok {τ : pS} (h : Ro τ) {d : Nat} (hd : d < td τ) : (pI τ 8 (5 * d) = nI (fN τ d) ∧ fN τ d < tn τ) ∧ (pI τ 8 (5 * d + 1) = nI (tN τ d) ∧ tN τ d < tn τ) ∧ (pI τ 8 (5 * d + 2) = nI (vN τ d) ∧ 1 ≤ vN τ d ∧ vN τ d ≤ 99) ∧ (pI τ 8 (5 * d + 3) = nI (iN τ d) ∧ iN τ d ≤ 9) ∧ fN τ d ≠ tN τ d := by
  have o1 := h.1
  obtain ⟨x, y, v, i, k1, k2, k3, k4, k5, k6, k7, k8, k9, k10, -⟩ := h.2.2.2.2.2.2 d hd
  unfold fN tN vN iN
  rw [k7, k8, k9, k10, nI_clamp (by omega), nI_clamp (by omega), nI_clamp (by omega), nI_clamp (by omega)]
  exact ⟨⟨rfl, k1⟩, ⟨rfl, k2⟩, ⟨rfl, k4, k5⟩, ⟨rfl, k6⟩, k3⟩
theorem wN_ok {τ : pS} (h : Ro τ) : pI τ 0 14 = nI (wN τ) ∧ wN τ < 4 := by
  obtain ⟨w, h1, h2⟩ := h.2.2.2.2.1
  unfold wN
  rw [h2, nI_clamp (by omega)]
  exact ⟨rfl, h1⟩
def leftB (τ : pS) (o : Nat → Bool) (p : Nat) : Bool := if kN τ p = 2 then false else if kN τ p = 3 then o p && o (mN τ p) else if kN τ p = 4 then o p || o (mN τ p) else o p
def dogB (τ : pS) (p t : Nat) : Bool := if kN τ p = 5 then true else if kN τ p = 1 then decide (t % 2 = 0) else false
def emptyB (τ : pS) (o : Nat → Bool) (p t : Nat) : Bool := if wN τ = 0 then leftB τ o p else if wN τ = 1 then leftB τ o p && !dogB τ p t else if wN τ = 2 then leftB τ o p && decide (8 ≤ t) else !leftB τ o p
def payB (τ : pS) (o : Nat → Bool) (d t : Nat) : Bool := o (fN τ d) && emptyB τ o (tN τ d) t
def outB (τ : pS) (t p : Nat) : Bool := (outN τ p).testBit t
theorem six {k : Nat} (h : k < 6) : k = 0 ∨ k = 1 ∨ k = 2 ∨ k = 3 ∨ k = 4 ∨ k = 5 := by omega
theorem four {k : Nat} (h : k < 4) : k = 0 ∨ k = 1 ∨ k = 2 ∨ k = 3 := by omega
theorem b2i_if (b : Bool) : (if b2i b = 0 then some (0 : Int32) else some 1) = some (b2i b) := by cases b <;> rfl
theorem b2i_ifn (b : Bool) : (if b2i b = 0 then some (1 : Int32) else some 0) = some (b2i (!b)) := by cases b <;> rfl
theorem isLeft_eq {σ τ : pS} (h : RR σ τ) {p : Nat} (hp : p < tn τ) {S : Nat} (hS : S < 2 ^ 31) : fX3_isLeft σ (pR σ 0 8) (nI p) (nI S) = some (b2i (leftB τ S.testBit p)) := by
  have v1 : isV (pR σ 0 8) = true := h.2.2.2.1.1
  have o1 := h.2.2.2.2.1.1
  obtain ⟨k1, k2, k3, -⟩ := kN_ok h.2.2.2.2.1 hp
  have w1 : pI σ (pR σ 0 8 + 1) p = nI (kN τ p) := ((h.2.2.2.1.2.2.2.2.2.2.1 p hp).1).trans k1
  have w2 : pI σ (pR σ 0 8 + 2) p = pI τ 7 (4 * p + 1) := (h.2.2.2.1.2.2.2.2.2.2.1 p hp).2.1
  unfold fX3_isLeft leftB
  rw [v1, pin_lit (show p < 6 by omega) (by decide), nI_clamp (show p < 2 ^ 31 by omega), w1, w2, holds_eq hS (show p < 32 by omega)]
  rcases six k2 with e | e | e | e | e | e <;> rw [e] at k3 ⊢
  · simp only [if_true, obind_some, b2i_nar, show ¬ nI 0 = (2 : Int32) by decide, show ¬ nI 0 = (3 : Int32) by decide, show ¬ nI 0 = (4 : Int32) by decide, if_false, show ¬ (0 = 2) by decide, show ¬ (0 = 3) by decide, show ¬ (0 = 4) by decide]
  · simp only [if_true, obind_some, b2i_nar, show ¬ nI 1 = (2 : Int32) by decide, show ¬ nI 1 = (3 : Int32) by decide, show ¬ nI 1 = (4 : Int32) by decide, if_false, show ¬ (1 = 2) by decide, show ¬ (1 = 3) by decide, show ¬ (1 = 4) by decide]
  · simp only [if_true, show nI 2 = (2 : Int32) by decide]
    rfl
  · obtain ⟨m1, m2⟩ := k3 (by omega)
    rw [m1, holds_eq hS (show mN τ p < 32 by omega)]
    simp only [if_true, obind_some, show ¬ nI 3 = (2 : Int32) by decide, show nI 3 = (3 : Int32) by decide, if_false, show ¬ (3 = 2) by decide, b2i_if]
    cases S.testBit p <;> rfl
  · obtain ⟨m1, m2⟩ := k3 (by omega)
    rw [m1, holds_eq hS (show mN τ p < 32 by omega)]
    simp only [if_true, obind_some, show ¬ nI 4 = (2 : Int32) by decide, show ¬ nI 4 = (3 : Int32) by decide, show nI 4 = (4 : Int32) by decide, if_false, show ¬ (4 = 2) by decide, show ¬ (4 = 3) by decide, b2i_if]
    cases S.testBit p <;> rfl
  · simp only [if_true, obind_some, b2i_nar, show ¬ nI 5 = (2 : Int32) by decide, show ¬ nI 5 = (3 : Int32) by decide, show ¬ nI 5 = (4 : Int32) by decide, if_false, show ¬ (5 = 2) by decide, show ¬ (5 = 3) by decide, show ¬ (5 = 4) by decide]
theorem dog_hours : ∀ t, t < 12 → Nat.testBit 4095 t = true ∧ Nat.testBit 1365 t = decide (t % 2 = 0) := by decide
def dogN (τ : pS) (p : Nat) : Nat := if kN τ p = 5 then 4095 else if kN τ p = 1 then 1365 else 0
theorem dogN_bit (τ : pS) (p : Nat) {t : Nat} (ht : t < 12) : (dogN τ p).testBit t = dogB τ p t := by
  unfold dogN dogB
  by_cases e5 : kN τ p = 5
  · rw [if_pos e5, if_pos e5]; exact (dog_hours t ht).1
  · by_cases e1 : kN τ p = 1
    · rw [if_neg e5, if_neg e5, if_pos e1, if_pos e1]; exact (dog_hours t ht).2
    · rw [if_neg e5, if_neg e5, if_neg e1, if_neg e1, Nat.zero_testBit]
theorem dogHours_eq {σ τ : pS} (h : RR σ τ) {p : Nat} (hp : p < tn τ) : fX3_dogHours σ (pR σ 0 8) (nI p) = some (nI (dogN τ p)) := by
  have v1 : isV (pR σ 0 8) = true := h.2.2.2.1.1
  have o1 := h.2.2.2.2.1.1
  obtain ⟨k1, k2, -, -⟩ := kN_ok h.2.2.2.2.1 hp
  have w1 : pI σ (pR σ 0 8 + 1) p = nI (kN τ p) := ((h.2.2.2.1.2.2.2.2.2.2.1 p hp).1).trans k1
  unfold fX3_dogHours dogN
  rw [v1, pin_lit (show p < 6 by omega) (by decide), nI_clamp (show p < 2 ^ 31 by omega), w1]
  rcases six k2 with e | e | e | e | e | e <;> rw [e] <;> rfl
theorem dogN_lt (τ : pS) (p : Nat) : dogN τ p < 4096 := by
  unfold dogN
  split
  · decide
  · split <;> decide
theorem countsAsEmpty_eq {σ τ : pS} (h : RR σ τ) {p : Nat} (hp : p < tn τ) {t : Nat} (ht : t < 12) {S : Nat} (hS : S < 2 ^ 31) : fX3_countsAsEmpty σ (pR σ 0 8) (nI p) (nI t) (nI S) = some (b2i (emptyB τ S.testBit p t)) := by
  have v1 : isV (pR σ 0 8) = true := h.2.2.2.1.1
  obtain ⟨k1, k2⟩ := wN_ok h.2.2.2.2.1
  have w1 : pI σ (pR σ 0 8) 2 = nI (wN τ) := (h.2.2.2.1.2.2.2.2.2.1).trans k1
  have dl := dogN_lt τ p
  unfold fX3_countsAsEmpty emptyB
  rw [v1, w1, isLeft_eq h hp hS]
  simp only [if_true, obind_some, dogHours_eq h hp, holds_eq (show dogN τ p < 2 ^ 31 by omega) (show t < 32 by omega), dogN_bit τ p ht, b2i_nar, b2i_ifn]
  rcases four k2 with e | e | e | e <;> rw [e]
  · rfl
  · simp only [show nI 1 = (1 : Int32) by decide, if_true, show ¬ (1 = 0) by decide, if_false]
    cases leftB τ S.testBit p <;> rfl
  · simp only [show nI 2 = (2 : Int32) by decide, if_true, show ¬ (2 = 0) by decide, show ¬ (2 = 1) by decide, if_false, show ¬ (2 : Int32) = 1 by decide]
    by_cases q : t < 8
    · rw [if_pos (show nI t < (8 : Int32) from nI_lt (b := 8) q (by decide)), decide_eq_false (by omega)]
      cases leftB τ S.testBit p <;> rfl
    · rw [if_neg (show ¬ nI t < (8 : Int32) from nI_nlt (b := 8) (by omega) (by omega)), decide_eq_true (by omega)]
      cases leftB τ S.testBit p <;> rfl
  · rfl
theorem isPayable_eq {σ τ : pS} (h : RR σ τ) {d : Nat} (hd : d < td τ) {t : Nat} (ht : t < 12) {S : Nat} (hS : S < 2 ^ 31) : fX3_isPayable σ (pR σ 0 8) (nI d) (nI t) (nI S) = some (b2i (payB τ S.testBit d t)) := by
  have v1 : isV (pR σ 0 8) = true := h.2.2.2.1.1
  have o1 := h.2.2.2.2.1.1
  have o2 := h.2.2.2.2.1.2.1
  obtain ⟨⟨a1, a2⟩, ⟨b1, b2⟩, -⟩ := dN_ok h.2.2.2.2.1 hd
  have w1 : pI σ (pR σ 0 8 + 5) d = nI (fN τ d) := ((h.2.2.2.1.2.2.2.2.2.2.2 d hd).1).trans a1
  have w2 : pI σ (pR σ 0 8 + 6) d = nI (tN τ d) := ((h.2.2.2.1.2.2.2.2.2.2.2 d hd).2.1).trans b1
  unfold fX3_isPayable payB
  rw [v1, pin_lit (show d < 8 by omega) (by decide), nI_clamp (show d < 2 ^ 31 by omega), w1, w2, holds_eq hS (show fN τ d < 32 by omega), countsAsEmpty_eq h b2 ht hS]
  simp only [if_true, obind_some, b2i_if]
  cases S.testBit (fN τ d) <;> rfl
def outS (τ : pS) (t : Nat) : Nat := bset (outB τ t) (tn τ)
theorem outS_lt {τ : pS} (h : Ro τ) (t : Nat) : outS τ t < 64 := Nat.lt_of_lt_of_le (bset_lt _ _) (pow_le31 (m := 6) h.1)
theorem peopleOut_eq {σ τ : pS} (h : RR σ τ) {t : Nat} (ht : t < 12) : fX3_peopleOut σ (pR σ 0 8) (nI t) = some (nI (outS τ t)) := by
  have v1 : isV (pR σ 0 8) = true := h.2.2.2.1.1
  have o1 := h.2.2.2.2.1.1
  have v4 : pI σ (pR σ 0 8) 0 = nI (tn τ) := (h.2.2.2.1.2.2.2.1).trans h.2.2.2.2.1.2.2.1
  unfold fX3_peopleOut
  refine whF (fun F (a : Int32) v => lX3_peopleOut_4 σ (pR σ 0 8) (nI t) (fun y3 => some y3) F a v) (n := tn τ) (by omega) (fun j => nI (bset (outB τ t) j)) _ (fun F => ?_) (fun F j hj => ?_)
  · show lX3_peopleOut_4 σ _ _ _ (F + 1) _ _ = _
    rw [lX3_peopleOut_4.eq_2, v1, v4, if_pos rfl, if_pos (nI_le (Nat.le_refl _) (by omega))]
    rfl
  · show lX3_peopleOut_4 σ _ _ _ (F + 1) _ _ = _
    obtain ⟨e1, e2⟩ := outN_ok (h.2.2.2.2.1.2.2.2.2.2.1 j hj)
    have w3 : pI σ (pR σ 0 8 + 3) j = nI (outN τ j) := ((h.2.2.2.1.2.2.2.2.2.2.1 j hj).2.2.1).trans e1
    rw [lX3_peopleOut_4.eq_2, v1, v4, if_pos rfl, if_neg (nI_nge (by omega) (by omega)), pin_lit (show j < 6 by omega) (by decide), nI_clamp (show j < 2 ^ 31 by omega), w3, q_bit (by omega) (by omega)]
    simp only [if_true, plet_eq, nI_1]
    rw [← bset_s (outB τ t) (show j < 31 by omega)]
    rfl
theorem payableDebts_eq {σ τ : pS} (h : RR σ τ) {t : Nat} (ht : t < 12) {S : Nat} (hS : S < 2 ^ 31) : fX3_payableDebts σ (pR σ 0 8) (nI t) (nI S) = some (nI (bset (fun d => payB τ S.testBit d t) (td τ))) := by
  have v1 : isV (pR σ 0 8) = true := h.2.2.2.1.1
  have o2 := h.2.2.2.2.1.2.1
  have v5 : pI σ (pR σ 0 8) 1 = nI (td τ) := (h.2.2.2.1.2.2.2.2.1).trans h.2.2.2.2.1.2.2.2.1
  unfold fX3_payableDebts
  refine whF (fun F (a : Int32) v => lX3_payableDebts_5 σ (pR σ 0 8) (nI t) (nI S) (fun y3 => some y3) F a v) (n := td τ) (by omega) (fun j => nI (bset (fun d => payB τ S.testBit d t) j)) _ (fun F => ?_) (fun F j hj => ?_)
  · show lX3_payableDebts_5 σ _ _ _ _ (F + 1) _ _ = _
    rw [lX3_payableDebts_5.eq_2, v1, v5, if_pos rfl, if_pos (nI_le (Nat.le_refl _) (by omega))]
  · show lX3_payableDebts_5 σ _ _ _ _ (F + 1) _ _ = _
    rw [lX3_payableDebts_5.eq_2, v1, v5, if_pos rfl, if_neg (nI_nge (by omega) (by omega)), isPayable_eq h hj ht hS]
    simp only [obind_some, plet_eq, nI_1, b2i_0]
    cases q : payB τ S.testBit j t
    · simp only [if_true]; rw [bset_f (f := fun d => payB τ S.testBit d t) q]
    · simp only [Bool.true_eq_false, if_false]; rw [bset_t (f := fun d => payB τ S.testBit d t) (by omega) q]
/-! the reference's side -/
theorem kind_eq {τ : pS} (h : Ro τ) {p : Nat} (hp : p < tn τ) : fX5_kind τ (nI p) = some (nI (kN τ p)) := by
  have o1 := h.1
  have e := n4 (k := p) 0 (show (0 : Int32) = nI 0 from rfl)
  rw [i_add0, Nat.add_zero] at e
  unfold fX5_kind
  rw [e, pin_lit (show 4 * p < 24 by omega) (by decide), nI_clamp (by omega), (kN_ok h hp).1]
  rfl
theorem with_eq {τ : pS} (h : Ro τ) {p : Nat} (hp : p < tn τ) : fX5_with τ (nI p) = some (pI τ 7 (4 * p + 1)) := by
  have o1 := h.1
  unfold fX5_with
  rw [n4 1 (show (1 : Int32) = nI 1 from rfl), pin_lit (show 4 * p + 1 < 24 by omega) (by decide), nI_clamp (by omega)]
  rfl
theorem isOutE {τ : pS} (h : Ro τ) {p t : Nat} (hp : p < tn τ) (ht : t < 12) : fX5_isOut τ (nI p) (nI t) = some (b2i (outB τ t p)) := isOut_eq (Nat.lt_of_lt_of_le hp h.1) (h.2.2.2.2.2.1 p hp) ht
theorem isBare_eq {τ : pS} (h : Ro τ) {p t : Nat} (hp : p < tn τ) (ht : t < 12) : fX5_isBare τ (nI p) (nI t) = some (b2i (leftB τ (outB τ t) p)) := by
  obtain ⟨k1, k2, k3, -⟩ := kN_ok h hp
  unfold fX5_isBare leftB
  rw [kind_eq h hp, isOutE h hp ht, with_eq h hp]
  rcases six k2 with e | e | e | e | e | e <;> rw [e] at k3 ⊢
  · simp only [if_true, obind_some, b2i_nar, show ¬ nI 0 = (2 : Int32) by decide, show ¬ nI 0 = (3 : Int32) by decide, show ¬ nI 0 = (4 : Int32) by decide, if_false, show ¬ (0 = 2) by decide, show ¬ (0 = 3) by decide, show ¬ (0 = 4) by decide]
  · simp only [if_true, obind_some, b2i_nar, show ¬ nI 1 = (2 : Int32) by decide, show ¬ nI 1 = (3 : Int32) by decide, show ¬ nI 1 = (4 : Int32) by decide, if_false, show ¬ (1 = 2) by decide, show ¬ (1 = 3) by decide, show ¬ (1 = 4) by decide]
  · simp only [if_true, obind_some, show nI 2 = (2 : Int32) by decide]
    rfl
  · obtain ⟨m1, m2⟩ := k3 (by omega)
    simp only [m1, isOutE h m2 ht, if_true, obind_some, show ¬ nI 3 = (2 : Int32) by decide, show nI 3 = (3 : Int32) by decide, if_false, show ¬ (3 = 2) by decide, b2i_if, show ¬ (3 : Int32) = 2 by decide]
    cases outB τ t p <;> rfl
  · obtain ⟨m1, m2⟩ := k3 (by omega)
    simp only [m1, isOutE h m2 ht, if_true, obind_some, show ¬ nI 4 = (2 : Int32) by decide, show ¬ nI 4 = (3 : Int32) by decide, show nI 4 = (4 : Int32) by decide, if_false, show ¬ (4 = 2) by decide, show ¬ (4 = 3) by decide, b2i_if, show ¬ (4 : Int32) = 2 by decide, show ¬ (4 : Int32) = 3 by decide]
    cases outB τ t p <;> rfl
  · simp only [if_true, obind_some, b2i_nar, show ¬ nI 5 = (2 : Int32) by decide, show ¬ nI 5 = (3 : Int32) by decide, show ¬ nI 5 = (4 : Int32) by decide, if_false, show ¬ (5 = 2) by decide, show ¬ (5 = 3) by decide, show ¬ (5 = 4) by decide]
theorem even_all : ∀ t, t < 12 → ((nI t - nI t / (2 : Int32) * (2 : Int32)) = 0) = (t % 2 = 0) := fun t ht => by
  rw [show (2 : Int32) = nI 2 from rfl, pk_rem (by omega) (by decide) (by decide), show (0 : Int32) = nI 0 from rfl, nI_eq (by omega) (by decide)]
theorem isDogIn_eq {τ : pS} (h : Ro τ) {p t : Nat} (hp : p < tn τ) (ht : t < 12) : fX5_isDogIn τ (nI p) (nI t) = some (b2i (dogB τ p t)) := by
  obtain ⟨k1, k2, -, -⟩ := kN_ok h hp
  unfold fX5_isDogIn dogB
  rw [kind_eq h hp]
  simp only [obind_some, even_all t ht]
  rcases six k2 with e | e | e | e | e | e <;> rw [e]
  · rfl
  · simp only [show ¬ nI 1 = (5 : Int32) by decide, show nI 1 = (1 : Int32) by decide, if_true, if_false, show ¬ (1 = 5) by decide, show ¬ (1 : Int32) = 5 by decide]
    by_cases q : t % 2 = 0
    · rw [if_pos q, decide_eq_true q]; rfl
    · rw [if_neg q, decide_eq_false q]; rfl
  · rfl
  · rfl
  · rfl
  · rfl
theorem isEmpty_eq {τ : pS} (h : Ro τ) {p t : Nat} (hp : p < tn τ) (ht : t < 12) : fX5_isEmpty τ (nI p) (nI t) = some (b2i (emptyB τ (outB τ t) p t)) := by
  obtain ⟨k1, k2⟩ := wN_ok h
  unfold fX5_isEmpty emptyB
  rw [k1, isBare_eq h hp ht]
  simp only [obind_some, isDogIn_eq h hp ht, b2i_nar, b2i_ifn, if_true]
  rcases four k2 with e | e | e | e <;> rw [e]
  · rfl
  · simp only [show nI 1 = (1 : Int32) by decide, if_true, show ¬ (1 = 0) by decide, if_false, i10]
    cases leftB τ (outB τ t) p <;> rfl
  · simp only [show nI 2 = (2 : Int32) by decide, if_true, show ¬ (2 = 0) by decide, show ¬ (2 = 1) by decide, if_false, show ¬ (2 : Int32) = 1 by decide, show ¬ (2 : Int32) = 0 by decide]
    by_cases q : t < 8
    · rw [if_pos (show nI t < (8 : Int32) from nI_lt (b := 8) q (by decide)), decide_eq_false (by omega)]
      cases leftB τ (outB τ t) p <;> rfl
    · rw [if_neg (show ¬ nI t < (8 : Int32) from nI_nlt (b := 8) (by omega) (by omega)), decide_eq_true (by omega)]
      cases leftB τ (outB τ t) p <;> rfl
  · rfl
theorem debt0 {τ : pS} (h : Ro τ) {d : Nat} (hd : d < td τ) : fX5_debtAt τ (nI d) 0 = some (nI (fN τ d)) := by
  rw [debtAt_eq (Nat.lt_of_lt_of_le hd h.2.1) (show 0 < 5 by decide) (show (0 : Int32) = nI 0 from rfl), Nat.add_zero, (dN_ok h hd).1.1]
theorem debt1 {τ : pS} (h : Ro τ) {d : Nat} (hd : d < td τ) : fX5_debtAt τ (nI d) 1 = some (nI (tN τ d)) := by
  rw [debtAt_eq (Nat.lt_of_lt_of_le hd h.2.1) (show 1 < 5 by decide) (show (1 : Int32) = nI 1 from rfl), (dN_ok h hd).2.1.1]
theorem canPay_eq {τ : pS} (h : Ro τ) {d t : Nat} (hd : d < td τ) (ht : t < 12) : fX5_canPay τ (nI d) (nI t) = some (b2i (payB τ (outB τ t) d t)) := by
  obtain ⟨⟨a1, a2⟩, ⟨b1, b2⟩, -⟩ := dN_ok h hd
  unfold fX5_canPay payB
  rw [debt0 h hd, debt1 h hd]
  simp only [obind_some, isOutE h a2 ht, isEmpty_eq h b2 ht, b2i_if]
  cases outB τ t (fN τ d) <;> rfl
def mayS (τ : pS) (t : Nat) : Nat := bset (fun d => payB τ (outB τ t) d t) (td τ)
theorem payable_eq {τ : pS} (h : Ro τ) {t : Nat} (ht : t < 12) : fX5_payable τ (nI t) = some (nI (mayS τ t)) := by
  have o2 := h.2.1
  have o4 := h.2.2.2.1
  unfold fX5_payable
  refine whF (fun F (a : Int32) v => lX5_payable_4 τ (nI t) (fun y3 => some y3) F a v) (n := td τ) (by omega) (fun j => nI (bset (fun d => payB τ (outB τ t) d t) j)) _ (fun F => ?_) (fun F j hj => ?_)
  · show lX5_payable_4 τ _ _ (F + 1) _ _ = _
    rw [lX5_payable_4.eq_2, o4, if_pos (nI_le (Nat.le_refl _) (by omega))]
    rfl
  · show lX5_payable_4 τ _ _ (F + 1) _ _ = _
    rw [lX5_payable_4.eq_2, o4, if_neg (nI_nge (by omega) (by omega)), canPay_eq h hj ht]
    simp only [obind_some, plet_eq, nI_1, b2i_0]
    cases q : payB τ (outB τ t) j t
    · simp only [if_true, or_0]; rw [bset_f (f := fun d => payB τ (outB τ t) d t) q]
    · simp only [Bool.true_eq_false, if_false]; rw [bset_t (f := fun d => payB τ (outB τ t) d t) (by omega) q]
theorem leftB_congr {τ : pS} (h : Ro τ) {o o' : Nat → Bool} (ho : ∀ p, p < tn τ → o p = o' p) {p : Nat} (hp : p < tn τ) : leftB τ o p = leftB τ o' p := by
  obtain ⟨k1, k2, k3, -⟩ := kN_ok h hp
  unfold leftB
  rw [ho p hp]
  by_cases e3 : kN τ p = 3
  · rw [ho _ (k3 (Or.inl e3)).2]
  · by_cases e4 : kN τ p = 4
    · rw [ho _ (k3 (Or.inr e4)).2]
    · rw [if_neg e3, if_neg e4, if_neg e3, if_neg e4]
theorem emptyB_congr {τ : pS} (h : Ro τ) {o o' : Nat → Bool} (ho : ∀ p, p < tn τ → o p = o' p) {p : Nat} (hp : p < tn τ) (t : Nat) : emptyB τ o p t = emptyB τ o' p t := by unfold emptyB; rw [leftB_congr h ho hp]
theorem payB_congr {τ : pS} (h : Ro τ) {o o' : Nat → Bool} (ho : ∀ p, p < tn τ → o p = o' p) {d : Nat} (hd : d < td τ) (t : Nat) : payB τ o d t = payB τ o' d t := by
  obtain ⟨⟨a1, a2⟩, ⟨b1, b2⟩, -⟩ := dN_ok h hd
  unfold payB
  rw [ho _ a2, emptyB_congr h ho b2]
theorem outS_bit {τ : pS} {t p : Nat} (hp : p < tn τ) : (outS τ t).testBit p = outB τ t p := by unfold outS; rw [bset_bit, decide_eq_true hp, Bool.true_and]
theorem xmay_eq {σ τ : pS} (h : RR σ τ) {t : Nat} (ht : t < 12) : fX3_payableDebts σ (pR σ 0 8) (nI t) (nI (outS τ t)) = some (nI (mayS τ t)) := by
  have hl := outS_lt h.2.2.2.2.1 t
  rw [payableDebts_eq h ht (by omega)]
  congr 2
  exact bset_congr _ (fun d hd => payB_congr h.2.2.2.2.1 (fun p hp => outS_bit hp) hd t)
theorem xpay_eq {σ τ : pS} (h : RR σ τ) {d t : Nat} (hd : d < td τ) (ht : t < 12) : fX3_isPayable σ (pR σ 0 8) (nI d) (nI t) (nI (outS τ t)) = some (b2i (payB τ (outB τ t) d t)) := by
  have hl := outS_lt h.2.2.2.2.1 t
  rw [isPayable_eq h hd ht (by omega), payB_congr h.2.2.2.2.1 (fun p hp => outS_bit hp) hd t]
theorem mayS_lt {τ : pS} (h : Ro τ) (t : Nat) : mayS τ t < 256 := Nat.lt_of_lt_of_le (bset_lt _ _) (pow_le31 (m := 8) h.2.1)
