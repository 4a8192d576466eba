/-! PURE: the two readers side by side: single signs -/
theorem sI_id {σ : pS} {e i : Nat} {v : Int32} (h : pI σ e i = v) : sI σ e i v = σ := pS_ext (fun e' j => by
  rw [pI_sI]
  by_cases z : e' = e ∧ j = i
  · rw [if_pos z, z.1, z.2, h]
  · rw [if_neg z]) (fun _ _ => rfl) (fun _ _ => rfl)
def TX (τ0 : pS) (k n p : Nat) : Int32 := if p < n then pI τ0 6 (120 * k + p) else 0
def HC (σ0 τ0 : pS) (k n : Nat) : Prop := k < 4 ∧ n ≤ 120 ∧ pI τ0 5 k = nI n ∧ (∀ i, i < n → pI σ0 (26 + k) i = pI τ0 6 (120 * k + i)) ∧ isV (vs σ0) = true
def FrX (σ0 σ : pS) (k n : Nat) : Prop := (∀ e i, e ≠ 1 → ¬ (vs σ0 ≤ e ∧ e ≤ vs σ0 + 8) → pI σ e i = pI σ0 e i) ∧ (∀ e i, pL σ e i = pL σ0 e i) ∧ (∀ e i, ¬ (e = 1 ∧ i = 0) → pR σ e i = pR σ0 e i) ∧ pR σ 1 0 = 26 + k ∧ pI σ 1 1 = nI n
def FrM (τ0 τ : pS) : Prop := (∀ e i, e ≠ 9 → e ≠ 10 → ¬ (e = 0 ∧ 15 ≤ i ∧ i ≤ 18) → pI τ e i = pI τ0 e i) ∧ ∀ e i, pL τ e i = pL τ0 e i
def VP (w : Nat) (σ τ : pS) (np q : Nat) : Prop := (pI σ (w + 1) q = pI τ 9 (4 * q) ∧ pI σ (w + 2) q = pI τ 9 (4 * q + 1) ∧ pI σ (w + 3) q = pI τ 9 (4 * q + 2) ∧ pI σ (w + 4) q = pI τ 9 (4 * q + 3)) ∧ ∃ kd, kd < 6 ∧ pI τ 9 (4 * q) = nI kd ∧ ((kd = 3 ∨ kd = 4) → ∃ m, m < np ∧ pI τ 9 (4 * q + 1) = nI m) ∧ (¬ (kd = 3 ∨ kd = 4) → pI τ 9 (4 * q + 1) = -9) ∧ (∃ o, o < 4096 ∧ pI τ 9 (4 * q + 2) = nI o) ∧ pI τ 9 (4 * q + 3) = nI 5
def VD (w : Nat) (σ τ : pS) (np d : Nat) : Prop := (pI σ (w + 5) d = pI τ 10 (5 * d) ∧ pI σ (w + 6) d = pI τ 10 (5 * d + 1) ∧ pI σ (w + 7) d = pI τ 10 (5 * d + 2) ∧ pI σ (w + 8) d = pI τ 10 (5 * d + 3) ∧ pI τ 10 (5 * d + 4) = -9) ∧ ∃ x y v i, x < np ∧ y < np ∧ x ≠ y ∧ 1 ≤ v ∧ v ≤ 99 ∧ i ≤ 9 ∧ pI τ 10 (5 * d) = nI x ∧ pI τ 10 (5 * d + 1) = nI y ∧ pI τ 10 (5 * d + 2) = nI v ∧ pI τ 10 (5 * d + 3) = nI i
def Vil (w : Nat) (σ τ : pS) (np nd : Nat) : Prop := (np ≤ 6 ∧ nd ≤ 8) ∧ (pI σ w 0 = nI np ∧ pI σ w 1 = nI nd ∧ pI σ w 2 = 0) ∧ (pI τ 0 17 = nI np ∧ pI τ 0 18 = nI nd) ∧ (∀ q, q < np → VP w σ τ np q) ∧ ∀ d, d < nd → VD w σ τ np d
def RZ (σ0 τ0 : pS) (k n : Nat) (σ τ : pS) (p : Nat) : Prop := FrX σ0 σ k n ∧ FrM τ0 τ ∧ (p ≤ n ∧ pI σ 1 2 = nI p ∧ pI τ 0 15 = nI p) ∧ pI σ 1 3 = 1
def RA (σ0 τ0 : pS) (k n : Nat) (σ τ : pS) (p np nd : Nat) : Prop := FrX σ0 σ k n ∧ FrM τ0 τ ∧ (p ≤ n ∧ pI σ 1 2 = nI p ∧ pI τ 0 15 = nI p) ∧ pI σ 1 3 = 0 ∧ Vil (vs σ0) σ τ np nd
theorem vs46 {σ0 : pS} (h : isV (vs σ0) = true) : 46 ≤ vs σ0 := by rcases isV_or h with e | e <;> omega
theorem FrX_s1 {σ0 σ : pS} {k n : Nat} (h : FrX σ0 σ k n) {i : Nat} (hi : i ≠ 1) {v : Int32} : FrX σ0 (sI σ 1 i v) k n := ⟨fun e j q1 q2 => by rw [pI_sI_ne q1]; exact h.1 e j q1 q2, h.2.1, h.2.2.1, h.2.2.2.1, by rw [pI_sI_nj (fun z => hi z.symm)]; exact h.2.2.2.2⟩
theorem FrM_s0 {τ0 τ : pS} (h : FrM τ0 τ) {i : Nat} (hi : 15 ≤ i ∧ i ≤ 18) {v : Int32} : FrM τ0 (sI τ 0 i v) := ⟨fun e j q1 q2 q3 => by rw [pI_sI, if_neg (fun z => q3 (by omega))]; exact h.1 e j q1 q2 q3, h.2⟩
theorem Vil_like {w : Nat} {σ σ' τ τ' : pS} {np nd : Nat} (h : Vil w σ τ np nd) (hx : ∀ e i, w ≤ e → e ≤ w + 8 → pI σ' e i = pI σ e i) (h17 : pI τ' 0 17 = pI τ 0 17) (h18 : pI τ' 0 18 = pI τ 0 18) (h9 : ∀ i, pI τ' 9 i = pI τ 9 i) (h10 : ∀ i, pI τ' 10 i = pI τ 10 i) : Vil w σ' τ' np nd := by
  obtain ⟨a, b, c, d, e⟩ := h
  refine ⟨a, by rw [hx w 0 (by omega) (by omega), hx w 1 (by omega) (by omega), hx w 2 (by omega) (by omega)]; exact b, by rw [h17, h18]; exact c, fun q hq => ?_, fun q hq => ?_⟩
  · have := d q hq
    unfold VP at this ⊢
    rw [hx (w + 1) q (by omega) (by omega), hx (w + 2) q (by omega) (by omega), hx (w + 3) q (by omega) (by omega), hx (w + 4) q (by omega) (by omega)]
    simp only [h9]
    exact this
  · have := e q hq
    unfold VD at this ⊢
    rw [hx (w + 5) q (by omega) (by omega), hx (w + 6) q (by omega) (by omega), hx (w + 7) q (by omega) (by omega), hx (w + 8) q (by omega) (by omega)]
    simp only [h10]
    exact this
section
variable {σ0 τ0 : pS} {k n : Nat} {σ τ : pS} {p np nd : Nat}
theorem RA_16 (A : RA σ0 τ0 k n σ τ p np nd) (x : Int32) : RA σ0 τ0 k n σ (sI τ 0 16 x) p np nd := ⟨A.1, FrM_s0 A.2.1 (by decide), ⟨A.2.2.1.1, A.2.2.1.2.1, by rw [pI_sI_nj (by decide)]; exact A.2.2.1.2.2⟩, A.2.2.2.1, Vil_like A.2.2.2.2 (fun _ _ _ _ => rfl) (pI_sI_nj (by decide)) (pI_sI_nj (by decide)) (fun _ => pI_sI_ne (by decide)) (fun _ => pI_sI_ne (by decide))⟩
theorem RZ_16 (A : RZ σ0 τ0 k n σ τ p) (x : Int32) : RZ σ0 τ0 k n σ (sI τ 0 16 x) p := ⟨A.1, FrM_s0 A.2.1 (by decide), ⟨A.2.2.1.1, A.2.2.1.2.1, by rw [pI_sI_nj (by decide)]; exact A.2.2.1.2.2⟩, A.2.2.2⟩
theorem RA_dead (A : RA σ0 τ0 k n σ τ p np nd) : RZ σ0 τ0 k n (sI σ 1 3 1) τ p := ⟨FrX_s1 A.1 (by decide), A.2.1, ⟨A.2.2.1.1, by rw [pI_sI_nj (by decide)]; exact A.2.2.1.2.1, A.2.2.1.2.2⟩, pI_sI_eq⟩
theorem RA_pl (C : HC σ0 τ0 k n) (A : RA σ0 τ0 k n σ τ p np nd) (hp : p < n) : RA σ0 τ0 k n (sI σ 1 2 (nI (p + 1))) (sI τ 0 15 (nI (p + 1))) (p + 1) np nd := ⟨FrX_s1 A.1 (by decide), FrM_s0 A.2.1 (by decide), ⟨hp, pI_sI_eq, pI_sI_eq⟩, by rw [pI_sI_nj (by decide)]; exact A.2.2.2.1, Vil_like A.2.2.2.2 (fun e i q1 q2 => pI_sI_ne (by have := vs46 C.2.2.2.2; omega)) (pI_sI_nj (by decide)) (pI_sI_nj (by decide)) (fun _ => pI_sI_ne (by decide)) (fun _ => pI_sI_ne (by decide))⟩
theorem TX_lt {c : Int32} (h : TX τ0 k n p = c) (hc : ¬ c = 0) : p < n := by
  unfold TX at h
  by_cases q : p < n
  · exact q
  · rw [if_neg q] at h
    exact absurd h.symm hc
theorem byte_eq (C : HC σ0 τ0 k n) (A : RA σ0 τ0 k n σ τ p np nd) : fX5_byteAt τ (nI k) (pI τ 0 15) = some (TX τ0 k n p) := by
  obtain ⟨c1, c2, c3, c4, c5⟩ := C
  obtain ⟨a1, a2, ⟨b1, b2, b3⟩, -⟩ := A
  unfold fX5_byteAt TX
  rw [b3, pin_lit (show k < 4 by omega) (by decide), nI_clamp (show k < 2 ^ 31 by omega), a2.1 5 k (by decide) (by decide) (by omega), c3, n120]
  by_cases q : p < n
  · rw [if_pos rfl, if_neg (nI_nge q (by omega)), pin_lit (show 120 * k + p < 480 by omega) (by decide), if_pos rfl, nI_clamp (show 120 * k + p < 2 ^ 31 by omega), if_pos q, a2.1 6 _ (by decide) (by decide) (by omega)]
  · rw [if_pos rfl, if_pos (nI_le (by omega) (by omega)), if_neg q]
theorem xbyte (C : HC σ0 τ0 k n) (A : RA σ0 τ0 k n σ τ p np nd) (hp : p < n) : isA wX 2 (pR σ 1 0) = true ∧ alen wX (pR σ 1 0) = 120 ∧ pI σ (pR σ 1 0) p = TX τ0 k n p := by
  obtain ⟨c1, c2, c3, c4, c5⟩ := C
  have w := vs46 c5
  obtain ⟨t1, t2⟩ := text_isA k c1
  rw [A.1.2.2.2.1]
  refine ⟨t1, t2, ?_⟩
  unfold TX
  rw [if_pos hp, A.1.1 _ _ (by omega) (by omega), c4 p hp]
theorem next_eq (C : HC σ0 τ0 k n) (A : RA σ0 τ0 k n σ τ p np nd) {c : Int32} (hc : ¬ c = 0) : fX1_isNext σ c = some (b2i (decide (TX τ0 k n p = c))) := by
  have c2 := C.2.1
  have b := A.2.2.1
  have b1 := b.1
  unfold fX1_isNext
  rw [A.1.2.2.2.2, b.2.1]
  by_cases q : p < n
  · obtain ⟨x1, x2, x3⟩ := xbyte C A q
    rw [if_neg (nI_nge q (by omega)), x1, x2, if_pos rfl, pin_lit (show p < 120 by omega) (by decide), if_pos rfl, nI_clamp (show p < 2 ^ 31 by omega), x3]
    by_cases z : TX τ0 k n p = c
    · rw [if_pos z, decide_eq_true z]; rfl
    · rw [if_neg z, decide_eq_false z]; rfl
  · rw [if_pos (nI_le (by omega) (by omega)), decide_eq_false (fun z => q (TX_lt z hc))]
    rfl
theorem sign_yes (C : HC σ0 τ0 k n) (A : RA σ0 τ0 k n σ τ p np nd) {c : Int32} (h : TX τ0 k n p = c) : fX5_sign τ (nI k) c = some (1, sI τ 0 15 (nI (p + 1))) := by
  unfold fX5_sign
  rw [byte_eq C A, obind_some]
  simp only [plet_eq, if_pos h, i10, if_false, nar1, if_true, A.2.2.1.2.2, nI_1]
theorem sign_no (C : HC σ0 τ0 k n) (A : RA σ0 τ0 k n σ τ p np nd) {c : Int32} (h : ¬ TX τ0 k n p = c) : fX5_sign τ (nI k) c = some (0, τ) := by
  unfold fX5_sign
  rw [byte_eq C A, obind_some]
  simp only [plet_eq, if_neg h, if_true, nar0]
  rw [sI_id (Int32.add_zero _).symm]
theorem dsign {c : Int32} (h : pI σ 1 3 = 1) : fX1_readSign σ c = some ((), σ) := by
  unfold fX1_readSign
  simp only [plet_eq]
  rw [if_neg (by rw [h]; decide), sI_id h]
theorem dfig (h : pI σ 1 3 = 1) : fX1_readFigure σ = some (0, σ) := by
  unfold fX1_readFigure
  simp only [plet_eq]
  rw [if_neg (by rw [h]; decide), sI_id h]
theorem dnum {a b : Int32} (h : pI σ 1 3 = 1) : fX1_readNumber σ a b = some (0, σ) := by
  unfold fX1_readNumber
  rw [dfig h, pbind_some]
  simp only [plet_eq]
  rw [if_neg (by rw [h]; decide), sI_id h]
  split
  · rfl
  · split <;> rfl
theorem dlet {a : Int32} (h : pI σ 1 3 = 1) : fX1_readLetter σ a = some (0, σ) := by
  unfold fX1_readLetter
  simp only [plet_eq]
  rw [if_neg (by rw [h]; decide), sI_id h]
theorem rsign (C : HC σ0 τ0 k n) (A : RA σ0 τ0 k n σ τ p np nd) {c : Int32} (hc : ¬ c = 0) : ∃ σ1 r τ1, fX1_readSign σ c = some ((), σ1) ∧ fX5_sign τ (nI k) c = some (r, τ1) ∧ ((r = 1 ∧ RA σ0 τ0 k n σ1 τ1 (p + 1) np nd) ∨ (r = 0 ∧ RZ σ0 τ0 k n σ1 τ1 p)) := by
  unfold fX1_readSign
  rw [next_eq C A hc]
  simp only [plet_eq, if_pos A.2.2.2.1, obind_some, b2i_0, decide_eq_false_iff_not]
  by_cases z : TX τ0 k n p = c
  · rw [if_neg (fun y => y z), A.2.2.1.2.1, nI_1]
    exact ⟨_, 1, _, rfl, sign_yes C A z, Or.inl ⟨rfl, RA_pl C A (TX_lt z hc)⟩⟩
  · rw [if_pos z]
    exact ⟨_, 0, _, rfl, sign_no C A z, Or.inr ⟨rfl, RA_dead A⟩⟩
theorem dig_ex (b : Int32) : (∃ d, d ≤ 9 ∧ b = nI (48 + d)) ∨ ((b < 48 ∨ 57 < b) ∧ fX5_in (b - 48) 0 9 = some 0) := by
  by_cases h1 : b < 48
  · right
    refine ⟨Or.inl h1, ?_⟩
    rcases rng (b - 48) 9 (by decide) with z | ⟨z1, z2, z3⟩ | ⟨d, z1, z2, -⟩
    · exact in_neg z
    · exact in_big z3
    · exfalso
      have e : b = nI (48 + d) := by
        have : b = (b - 48) + 48 := by rw [Int32.sub_add_cancel]
        rw [this, z2, show (48 : Int32) = nI 48 from rfl, nI_add, Nat.add_comm]
      rw [e] at h1
      exact absurd h1 (nI_nlt (a := 48 + d) (b := 48) (by omega) (by omega))
  · by_cases h2 : (57 : Int32) < b
    · right
      refine ⟨Or.inr h2, ?_⟩
      rcases rng (b - 48) 9 (by decide) with z | ⟨z1, z2, z3⟩ | ⟨d, z1, z2, -⟩
      · exact in_neg z
      · exact in_big z3
      · exfalso
        have e : b = nI (48 + d) := by
          have : b = (b - 48) + 48 := by rw [Int32.sub_add_cancel]
          rw [this, z2, show (48 : Int32) = nI 48 from rfl, nI_add, Nat.add_comm]
        rw [e] at h2
        exact absurd h2 (nI_nlt (a := 57) (b := 48 + d) (by omega) (by omega))
    · left
      rcases rng b 57 (by decide) with z | ⟨z1, z2, z3⟩ | ⟨x, z1, z2, -⟩
      · exact absurd (Int32.lt_trans z (show (0 : Int32) < 48 by decide)) h1
      · exact absurd z3 h2
      · have : ¬ x < 48 := fun y => h1 (by rw [z2]; exact nI_lt (b := 48) y (by decide))
        exact ⟨x - 48, by omega, by rw [z2]; congr 1; omega⟩
theorem dig_ne0 {d : Nat} (hd : d ≤ 9) : ¬ nI (48 + d) = 0 := fun z => by
  have := (nI_lit (w := 48 + d) (n := 0) (by omega) (by decide) rfl).mp z
  omega
theorem dig_in {d : Nat} (hd : d ≤ 9) : fX5_in (nI (48 + d)) 48 57 = some 1 := in_yes (fun z => absurd z (nI_nlt (a := 48 + d) (b := 48) (by omega) (by omega))) (fun z => absurd z (nI_nlt (a := 57) (b := 48 + d) (by omega) (by omega)))
theorem dig_out {b : Int32} (h : b < 48 ∨ 57 < b) : fX5_in b 48 57 = some 0 := by
  rcases h with h | h
  · unfold fX5_in; rw [if_pos h]
  · exact in_big h
theorem dig_sub {d : Nat} : nI (48 + d) - (48 : Int32) = nI d := by rw [show (48 : Int32) = nI 48 from rfl, pk_sub (by omega)]; congr 1; omega
theorem xfig_yes (C : HC σ0 τ0 k n) (A : RA σ0 τ0 k n σ τ p np nd) {d : Nat} (hd : d ≤ 9) (h : TX τ0 k n p = nI (48 + d)) : fX1_isFigureNext σ = some 1 ∧ fX1_readFigure σ = some (nI d, sI σ 1 2 (nI (p + 1))) := by
  have hp := TX_lt h (dig_ne0 hd)
  have c2 := C.2.1
  obtain ⟨x1, x2, x3⟩ := xbyte C A hp
  have f : fX1_isFigureNext σ = some 1 := by
    unfold fX1_isFigureNext
    rw [A.1.2.2.2.2, A.2.2.1.2.1, if_neg (nI_nge hp (by omega)), x1, x2, if_pos rfl, pin_lit (show p < 120 by omega) (by decide), if_pos rfl, nI_clamp (show p < 2 ^ 31 by omega), x3, h, if_neg (show ¬ nI (48 + d) < (48 : Int32) from nI_nlt (a := 48 + d) (b := 48) (by omega) (by omega)), if_pos rfl, if_neg (show ¬ (57 : Int32) < nI (48 + d) from nI_nlt (a := 57) (b := 48 + d) (by omega) (by omega))]
  refine ⟨f, ?_⟩
  unfold fX1_readFigure
  simp only [plet_eq]
  rw [if_pos A.2.2.2.1, f, obind_some, if_neg i10, x1, x2, if_pos rfl, A.2.2.1.2.1, pin_lit (show p < 120 by omega) (by decide), if_pos rfl, nI_clamp (show p < 2 ^ 31 by omega), x3, h, dig_sub, nI_1]
theorem xfig_no (C : HC σ0 τ0 k n) (A : RA σ0 τ0 k n σ τ p np nd) (h : TX τ0 k n p < 48 ∨ 57 < TX τ0 k n p) : fX1_isFigureNext σ = some 0 ∧ fX1_readFigure σ = some (0, sI σ 1 3 1) := by
  have c2 := C.2.1
  have b1 := A.2.2.1.1
  have f : fX1_isFigureNext σ = some 0 := by
    unfold fX1_isFigureNext
    rw [A.1.2.2.2.2, A.2.2.1.2.1]
    by_cases hp : p < n
    · obtain ⟨x1, x2, x3⟩ := xbyte C A hp
      rw [if_neg (nI_nge hp (by omega)), x1, x2, if_pos rfl, pin_lit (show p < 120 by omega) (by decide), if_pos rfl, nI_clamp (show p < 2 ^ 31 by omega), x3]
      rcases h with h | h
      · rw [if_pos h]
      · by_cases y : TX τ0 k n p < 48
        · rw [if_pos y]
        · rw [if_neg y, if_pos rfl, if_pos h]
    · rw [if_pos (nI_le (by omega) (by omega))]
  refine ⟨f, ?_⟩
  unfold fX1_readFigure
  simp only [plet_eq]
  rw [if_pos A.2.2.2.1, f, obind_some, if_pos rfl]
theorem rfig (C : HC σ0 τ0 k n) (A : RA σ0 τ0 k n σ τ p np nd) : ∃ x σ1 r τ1, fX1_readFigure σ = some (x, σ1) ∧ fX5_figure τ (nI k) = some (r, τ1) ∧ ((r = 1 ∧ ∃ d, d ≤ 9 ∧ x = nI d ∧ pI τ1 0 16 = nI d ∧ RA σ0 τ0 k n σ1 τ1 (p + 1) np nd) ∨ (r = 0 ∧ RZ σ0 τ0 k n σ1 τ1 p)) := by
  unfold fX5_figure
  rw [byte_eq C A, obind_some]
  simp only [plet_eq, pI_sI_eq]
  rcases dig_ex (TX τ0 k n p) with ⟨d, hd, e⟩ | ⟨h1, h2⟩
  · have hp := TX_lt e (dig_ne0 hd)
    rw [e, dig_sub, show fX5_in (nI d) 0 9 = some 1 from in_yes (nI_pos (by omega)) (nI_nlt (a := 9) (b := d) hd (by decide)), obind_some, if_neg i10, nar1, if_pos rfl, pI_sI_nj (by decide), A.2.2.1.2.2, nI_1]
    refine ⟨_, _, 1, _, (xfig_yes C A hd e).2, rfl, Or.inl ⟨rfl, d, hd, rfl, by rw [pI_sI_nj (by decide), pI_sI_eq], RA_pl C (RA_16 A _) hp⟩⟩
  · rw [h2, obind_some, if_pos rfl, nar0, if_pos rfl, sI_id (Int32.add_zero _).symm]
    exact ⟨_, _, 0, _, (xfig_no C A h1).2, rfl, Or.inr ⟨rfl, RZ_16 (RA_dead A) _⟩⟩
/-- the end of a number: in its bounds or not -/
theorem num_end (A : RA σ0 τ0 k n σ τ p np nd) {lo hi v : Nat} (hl : lo < 2 ^ 31) (hh : hi < 2 ^ 31) (hv : v < 2 ^ 31) {c : Nat} (hc : 0 < c ∧ c < 3) : ∃ σ1 r τ1, (if nI v < nI lo then some (nI v, sI σ 1 3 1) else if nI v ≤ nI hi then some (nI v, σ) else some (nI v, sI σ 1 3 1)) = some (nI v, σ1) ∧ (if nI c ≤ 0 then some ((0 : Int32), sI τ 0 16 (nI v)) else (fX5_in (nI v) (nI lo) (nI hi)).bind fun r14 => if r14 = 0 then some ((0 : Int32), sI τ 0 16 (nI v)) else some ((1 : Int32), sI τ 0 16 (nI v))) = some (r, τ1) ∧ ((r = 1 ∧ lo ≤ v ∧ v ≤ hi ∧ pI τ1 0 16 = nI v ∧ RA σ0 τ0 k n σ1 τ1 p np nd) ∨ (r = 0 ∧ RZ σ0 τ0 k n σ1 τ1 p)) := by
  rw [if_neg (nI_n0 hc.1 (by omega))]
  by_cases z1 : v < lo
  · rw [if_pos (nI_lt z1 hl), show fX5_in (nI v) (nI lo) (nI hi) = some 0 by unfold fX5_in; rw [if_pos (nI_lt z1 hl)]]
    exact ⟨_, 0, _, rfl, rfl, Or.inr ⟨rfl, RZ_16 (RA_dead A) _⟩⟩
  · rw [if_neg (nI_nlt (by omega) hv)]
    by_cases z2 : v ≤ hi
    · rw [if_pos (nI_le z2 hh), in_yes (nI_nlt (by omega) hv) (nI_nlt z2 hh)]
      exact ⟨_, 1, _, rfl, rfl, Or.inl ⟨rfl, by omega, z2, pI_sI_eq, RA_16 A _⟩⟩
    · rw [if_neg (nI_nge (by omega) hv), in_big (nI_lt (by omega) hv)]
      exact ⟨_, 0, _, rfl, rfl, Or.inr ⟨rfl, RZ_16 (RA_dead A) _⟩⟩
/-- what the class does with a number, once its figures are read -/
def numX (lo hi y5 : Int32) (σ6 : pS) : Option (Int32 × pS) := if y5 < lo then some (y5, sI σ6 1 3 1) else if y5 ≤ hi then some (y5, σ6) else some (y5, sI σ6 1 3 1)
def numM (lo hi y9 y10 : Int32) (σ11 : pS) : Option (Int32 × pS) := if y9 ≤ 0 then some ((0 : Int32), sI σ11 0 16 y10) else (fX5_in y10 lo hi).bind fun r14 => if r14 = 0 then some ((0 : Int32), sI σ11 0 16 y10) else some ((1 : Int32), sI σ11 0 16 y10)
theorem num_yes (C : HC σ0 τ0 k n) (A : RA σ0 τ0 k n σ τ p np nd) {d : Nat} (hd : d ≤ 9) (e : TX τ0 k n p = nI (48 + d)) (a b : Int32) (kk : Int32 → Int32 → pS → Option (Int32 × pS)) (F : Nat) {c v : Nat} (hc : c < 2) : lX5_number_6 (nI k) a b kk (F + 1) (nI c) (nI v) τ = lX5_number_6 (nI k) a b kk F (nI (c + 1)) (nI (10 * v + d)) (sI τ 0 15 (nI (p + 1))) := by
  have em : ((10 : Int32) * nI v + nI (48 + d)) - 48 = nI (10 * v + d) := by
    rw [show (10 : Int32) = nI 10 from rfl, pk_mul, nI_add, show (48 : Int32) = nI 48 from rfl, pk_sub (by omega)]
    congr 1
    omega
  rw [lX5_number_6.eq_2, if_neg (show ¬ (2 : Int32) ≤ nI c from nI_nge (b := 2) hc (by decide)), byte_eq C A, obind_some, e, dig_in hd, obind_some, if_neg i10, obind_some, plet_eq, plet_eq, em, A.2.2.1.2.2, nI_1, nI_1]
theorem num_no (C : HC σ0 τ0 k n) (A : RA σ0 τ0 k n σ τ p np nd) (h : TX τ0 k n p < 48 ∨ 57 < TX τ0 k n p) (a b : Int32) (kk : Int32 → Int32 → pS → Option (Int32 × pS)) (F : Nat) {c v : Nat} (hc : c < 2) : lX5_number_6 (nI k) a b kk (F + 1) (nI c) (nI v) τ = kk (nI c) (nI v) τ := by
  rw [lX5_number_6.eq_2, if_neg (show ¬ (2 : Int32) ≤ nI c from nI_nge (b := 2) hc (by decide)), byte_eq C A, obind_some, dig_out h, obind_some, if_pos rfl]
theorem num_two (a b : Int32) (kk : Int32 → Int32 → pS → Option (Int32 × pS)) (F : Nat) {v : Nat} : lX5_number_6 (nI k) a b kk (F + 1) (nI 2) (nI v) τ = kk (nI 2) (nI v) τ := by
  rw [lX5_number_6.eq_2, if_pos (show (2 : Int32) ≤ nI 2 by decide)]
theorem num_fin (A : RA σ0 τ0 k n σ τ p np nd) {lo hi v : Nat} (hl : lo < 2 ^ 31) (hh : hi < 2 ^ 31) (hv : v < 2 ^ 31) {c : Nat} (hc : 0 < c ∧ c < 3) : ∃ σ1 r τ1, numX (nI lo) (nI hi) (nI v) σ = some (nI v, σ1) ∧ numM (nI lo) (nI hi) (nI c) (nI v) τ = some (r, τ1) ∧ ((r = 1 ∧ lo ≤ v ∧ v ≤ hi ∧ pI τ1 0 16 = nI v ∧ RA σ0 τ0 k n σ1 τ1 p np nd) ∨ (r = 0 ∧ RZ σ0 τ0 k n σ1 τ1 p)) := num_end A hl hh hv hc
theorem xnum_0 (C : HC σ0 τ0 k n) (A : RA σ0 τ0 k n σ τ p np nd) (h : TX τ0 k n p < 48 ∨ 57 < TX τ0 k n p) (lo hi : Int32) : fX1_readNumber σ lo hi = some (0, sI σ 1 3 1) := by
  have D := RA_dead A
  have dn := dnum (a := lo) (b := hi) D.2.2.2
  unfold fX1_readNumber at dn ⊢
  rw [dfig D.2.2.2, pbind_some] at dn
  rw [(xfig_no C A h).2, pbind_some]
  exact dn
theorem xnum_1 (C : HC σ0 τ0 k n) (A : RA σ0 τ0 k n σ τ p np nd) {d : Nat} (hd : d ≤ 9) (e : TX τ0 k n p = nI (48 + d)) (h : TX τ0 k n (p + 1) < 48 ∨ 57 < TX τ0 k n (p + 1)) (lo hi : Int32) : fX1_readNumber σ lo hi = numX lo hi (nI d) (sI σ 1 2 (nI (p + 1))) := by
  have hp := TX_lt e (dig_ne0 hd)
  have A1 := RA_pl C A hp
  unfold fX1_readNumber numX
  rw [(xfig_yes C A hd e).2, pbind_some]
  simp only [plet_eq]
  rw [if_pos A1.2.2.2.1, (xfig_no C A1 h).1, obind_some, if_pos rfl]
theorem xnum_2 (C : HC σ0 τ0 k n) (A : RA σ0 τ0 k n σ τ p np nd) {d d2 : Nat} (hd : d ≤ 9) (e : TX τ0 k n p = nI (48 + d)) (hd2 : d2 ≤ 9) (e2 : TX τ0 k n (p + 1) = nI (48 + d2)) (lo hi : Int32) : fX1_readNumber σ lo hi = numX lo hi (nI (10 * d + d2)) (sI (sI σ 1 2 (nI (p + 1))) 1 2 (nI (p + 1 + 1))) := by
  have hp := TX_lt e (dig_ne0 hd)
  have A1 := RA_pl C A hp
  have xy := xfig_yes C A1 hd2 e2
  have ev : (10 : Int32) * nI d + nI d2 = nI (10 * d + d2) := by rw [show (10 : Int32) = nI 10 from rfl, pk_mul, nI_add]
  unfold fX1_readNumber numX
  rw [(xfig_yes C A hd e).2, pbind_some]
  simp only [plet_eq]
  rw [if_pos A1.2.2.2.1, xy.1, obind_some, if_neg i10, xy.2, pbind_some, ev]
theorem rnum (C : HC σ0 τ0 k n) (A : RA σ0 τ0 k n σ τ p np nd) {lo hi : Nat} (hl : lo < 2 ^ 31) (hh : hi < 2 ^ 31) : ∃ x σ1 r τ1 p', fX1_readNumber σ (nI lo) (nI hi) = some (x, σ1) ∧ fX5_number τ (nI k) (nI lo) (nI hi) = some (r, τ1) ∧ ((r = 1 ∧ p < p' ∧ ∃ v, lo ≤ v ∧ v ≤ hi ∧ x = nI v ∧ pI τ1 0 16 = nI v ∧ RA σ0 τ0 k n σ1 τ1 p' np nd) ∨ (r = 0 ∧ RZ σ0 τ0 k n σ1 τ1 p')) := by
  have un : fX5_number τ (nI k) (nI lo) (nI hi) = lX5_number_6 (nI k) (nI lo) (nI hi) (numM (nI lo) (nI hi)) (997 + 1 + 1 + 1) (nI 0) (nI 0) τ := rfl
  rw [un]
  rcases dig_ex (TX τ0 k n p) with ⟨d, hd, e⟩ | ⟨h1, h2⟩
  · have hp := TX_lt e (dig_ne0 hd)
    have A1 := RA_pl C A hp
    rw [num_yes C A hd e _ _ _ _ (show 0 < 2 by decide), show 10 * 0 + d = d by omega]
    rcases dig_ex (TX τ0 k n (p + 1)) with ⟨d2, hd2, e2⟩ | ⟨g1, g2⟩
    · have hp2 := TX_lt e2 (dig_ne0 hd2)
      have A2 := RA_pl C A1 hp2
      rw [num_yes C A1 hd2 e2 _ _ _ _ (show 0 + 1 < 2 by decide), show 0 + 1 + 1 = 2 from rfl, num_two, xnum_2 C A hd e hd2 e2]
      obtain ⟨σ1, r, τ1, m1, m2, m3⟩ := num_fin A2 (v := 10 * d + d2) (c := 2) hl hh (by omega) (by decide)
      refine ⟨_, σ1, r, τ1, p + 1 + 1, m1, m2, ?_⟩
      rcases m3 with ⟨r1, v1, v2, v3, v4⟩ | ⟨r0, z⟩
      · exact Or.inl ⟨r1, by omega, _, v1, v2, rfl, v3, v4⟩
      · exact Or.inr ⟨r0, z⟩
    · rw [num_no C A1 g1 _ _ _ _ (show 0 + 1 < 2 by decide), xnum_1 C A hd e g1]
      obtain ⟨σ1, r, τ1, m1, m2, m3⟩ := num_fin A1 (v := d) (c := 0 + 1) hl hh (by omega) (by decide)
      refine ⟨_, σ1, r, τ1, p + 1, m1, m2, ?_⟩
      rcases m3 with ⟨r1, v1, v2, v3, v4⟩ | ⟨r0, z⟩
      · exact Or.inl ⟨r1, by omega, _, v1, v2, rfl, v3, v4⟩
      · exact Or.inr ⟨r0, z⟩
  · rw [num_no C A h1 _ _ _ _ (show 0 < 2 by decide), xnum_0 C A h1]
    refine ⟨0, _, 0, sI τ 0 16 (nI 0), p, rfl, ?_, Or.inr ⟨rfl, RZ_16 (RA_dead A) _⟩⟩
    unfold numM
    rw [if_pos (show nI 0 ≤ 0 by decide)]
theorem mlet_0 (C : HC σ0 τ0 k n) (A : RA σ0 τ0 k n σ τ p np nd) {m : Int32} (h : fX5_in (TX τ0 k n p - 65) 0 (nI np - 1) = some 0) : fX5_letter τ (nI k) m = some (0, sI τ 0 16 (TX τ0 k n p - 65)) := by
  have em : pI τ 0 17 = nI np := A.2.2.2.2.2.2.1.1
  unfold fX5_letter
  rw [byte_eq C A, obind_some]
  simp only [plet_eq, pI_sI_eq, pI_sI_nj (show 17 ≠ 16 by decide), em, h, obind_some, if_true, nar0]
  rw [sI_id (Int32.add_zero _).symm]
theorem mlet_e (C : HC σ0 τ0 k n) (A : RA σ0 τ0 k n σ τ p np nd) {m : Int32} (h : fX5_in (TX τ0 k n p - 65) 0 (nI np - 1) = some 1) (hm : TX τ0 k n p - 65 = m) : fX5_letter τ (nI k) m = some (0, sI τ 0 16 (TX τ0 k n p - 65)) := by
  have em : pI τ 0 17 = nI np := A.2.2.2.2.2.2.1.1
  unfold fX5_letter
  rw [byte_eq C A, obind_some]
  simp only [plet_eq, pI_sI_eq, pI_sI_nj (show 17 ≠ 16 by decide), em, h, obind_some, i10, if_false, if_pos hm, if_true, nar0]
  rw [sI_id (Int32.add_zero _).symm]
theorem mlet_1 (C : HC σ0 τ0 k n) (A : RA σ0 τ0 k n σ τ p np nd) {m : Int32} (h : fX5_in (TX τ0 k n p - 65) 0 (nI np - 1) = some 1) (hm : ¬ TX τ0 k n p - 65 = m) : fX5_letter τ (nI k) m = some (1, sI (sI τ 0 16 (TX τ0 k n p - 65)) 0 15 (nI (p + 1))) := by
  have em : pI τ 0 17 = nI np := A.2.2.2.2.2.2.1.1
  unfold fX5_letter
  rw [byte_eq C A, obind_some]
  simp only [plet_eq, pI_sI_eq, pI_sI_nj (show 17 ≠ 16 by decide), pI_sI_nj (show 15 ≠ 16 by decide), em, h, obind_some, i10, if_false, if_neg hm, if_true, nar1, A.2.2.1.2.2, nI_1]
theorem xlet_no (A : RA σ0 τ0 k n σ τ p np nd) (C : HC σ0 τ0 k n) {u : Int32} (h : p < n → fX3_isPerson σ (vs σ0) (TX τ0 k n p - 65) = some 0 ∨ (fX3_isPerson σ (vs σ0) (TX τ0 k n p - 65) = some 1 ∧ TX τ0 k n p - 65 = u)) : fX1_readLetter σ u = some (0, sI σ 1 3 1) := by
  have c2 := C.2.1
  have b1 := A.2.2.1.1
  have ew : pR σ 1 4 = vs σ0 := A.1.2.2.1 1 4 (by decide)
  unfold fX1_readLetter
  simp only [plet_eq]
  rw [if_pos A.2.2.2.1, A.1.2.2.2.2, A.2.2.1.2.1]
  by_cases hp : p < n
  · obtain ⟨x1, x2, x3⟩ := xbyte C A hp
    rw [if_neg (nI_nge hp (by omega)), x1, x2, if_pos rfl, pin_lit (show p < 120 by omega) (by decide), if_pos rfl, nI_clamp (show p < 2 ^ 31 by omega), x3, ew, C.2.2.2.2, if_pos rfl]
    rcases h hp with z | ⟨z1, z2⟩
    · rw [z, obind_some, if_pos rfl]
    · rw [z1, obind_some, if_neg i10, if_pos z2]
  · rw [if_pos (nI_le (by omega) (by omega))]
theorem xlet_yes (A : RA σ0 τ0 k n σ τ p np nd) (C : HC σ0 τ0 k n) (hp : p < n) {u : Int32} (h : fX3_isPerson σ (vs σ0) (TX τ0 k n p - 65) = some 1) (hu : ¬ TX τ0 k n p - 65 = u) : fX1_readLetter σ u = some (TX τ0 k n p - 65, sI σ 1 2 (nI (p + 1))) := by
  have c2 := C.2.1
  have ew : pR σ 1 4 = vs σ0 := A.1.2.2.1 1 4 (by decide)
  obtain ⟨x1, x2, x3⟩ := xbyte C A hp
  unfold fX1_readLetter
  simp only [plet_eq]
  rw [if_pos A.2.2.2.1, A.1.2.2.2.2, A.2.2.1.2.1, if_neg (nI_nge hp (by omega)), x1, x2, if_pos rfl, pin_lit (show p < 120 by omega) (by decide), if_pos rfl, nI_clamp (show p < 2 ^ 31 by omega), x3, ew, C.2.2.2.2, if_pos rfl, h, obind_some, if_neg i10, if_neg hu, nI_1]
theorem rlet (C : HC σ0 τ0 k n) (A : RA σ0 τ0 k n σ τ p np nd) {u m : Int32} (hum : ∀ v, v < np → (nI v = u ↔ nI v = m)) : ∃ x σ1 r τ1, fX1_readLetter σ u = some (x, σ1) ∧ fX5_letter τ (nI k) m = some (r, τ1) ∧ ((r = 1 ∧ ∃ v, v < np ∧ x = nI v ∧ pI τ1 0 16 = nI v ∧ ¬ nI v = u ∧ RA σ0 τ0 k n σ1 τ1 (p + 1) np nd) ∨ (r = 0 ∧ RZ σ0 τ0 k n σ1 τ1 p)) := by
  have v6 := A.2.2.2.2.1.1
  have c5 := C.2.2.2.2
  have en : pI σ (vs σ0) 0 = nI np := A.2.2.2.2.2.1.1
  have D : RZ σ0 τ0 k n (sI σ 1 3 1) (sI τ 0 16 (TX τ0 k n p - 65)) p := RZ_16 (RA_dead A) _
  rcases in_place (TX τ0 k n p - 65) np (by omega) with ⟨i1, i2⟩ | ⟨v, i1, i2, i3, i4, i5⟩
  · have ip : fX3_isPerson σ (vs σ0) (TX τ0 k n p - 65) = some 0 := by
      unfold fX3_isPerson
      rcases i2 with z | ⟨z1, z2⟩
      · rw [if_pos z]
      · rw [if_neg z1, c5, en, if_pos rfl, if_pos z2]
    exact ⟨_, _, 0, _, xlet_no A C (fun _ => Or.inl ip), mlet_0 C A i1, Or.inr ⟨rfl, D⟩⟩
  · have ip : fX3_isPerson σ (vs σ0) (TX τ0 k n p - 65) = some 1 := by
      unfold fX3_isPerson
      rw [if_neg i4, c5, en, if_pos rfl, if_neg i5]
    have hp : p < n := by
      by_cases q : p < n
      · exact q
      · have t0 : TX τ0 k n p = 0 := by unfold TX; rw [if_neg q]
        rw [t0] at i4
        exact absurd (by decide) i4
    by_cases z : nI v = u
    · exact ⟨_, _, 0, _, xlet_no A C (fun _ => Or.inr ⟨ip, by rw [i2]; exact z⟩), mlet_e C A i3 (by rw [i2]; exact (hum v i1).mp z), Or.inr ⟨rfl, D⟩⟩
    · refine ⟨_, _, 1, _, xlet_yes A C hp ip (by rw [i2]; exact z), mlet_1 C A i3 (by rw [i2]; exact fun y => z ((hum v i1).mpr y)), Or.inl ⟨rfl, v, i1, i2, by rw [pI_sI_nj (by decide), pI_sI_eq]; exact i2, z, RA_pl C (RA_16 A _) hp⟩⟩
end
