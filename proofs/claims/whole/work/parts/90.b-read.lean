/-! PURE: the two readers side by side: spans, people, debts -/
def spN : Nat → Nat → Nat → Nat
  | acc, _, 0 => acc
  | acc, a, q + 1 => spN (acc ||| 2 ^ a) (a + 1) q
theorem spN_s (acc a q : Nat) : spN acc a (q + 1) = spN (acc ||| 2 ^ a) (a + 1) q := rfl
theorem spN_or : ∀ q acc a, spN acc a q = acc ||| spN 0 a q
  | 0, acc, a => by show acc = acc ||| 0; rw [Nat.or_zero]
  | q + 1, acc, a => by rw [spN_s, spN_s, spN_or q (acc ||| 2 ^ a), spN_or q (0 ||| 2 ^ a), Nat.zero_or, Nat.or_assoc]
theorem spN_lt : ∀ q acc a, acc < 4096 → a + q ≤ 12 → spN acc a q < 4096
  | 0, acc, a, h, _ => h
  | q + 1, acc, a, h, h2 => by
    rw [spN_s]
    exact spN_lt q _ _ (Nat.or_lt_two_pow (n := 12) h (pow_lt12 (by omega))) (by omega)
theorem xspan_run {σ : pS} (h : pI σ 1 3 = 0) {b : Nat} (hb : b ≤ 11) (k : Int32 → Option (Int32 × pS)) : ∀ q a acc F, a + q = b + 1 → q < F → lX1_readSpan_27 σ (nI b) k F (nI acc) (nI a) = k (nI (spN acc a q)) := by
  intro q
  induction q with
  | zero =>
    intro a acc F h1 h2
    obtain ⟨G, rfl⟩ := fuel_s h2
    rw [lX1_readSpan_27.eq_2, if_pos (nI_lt (by omega) (by omega))]
    rfl
  | succ q ih =>
    intro a acc F h1 h2
    obtain ⟨G, rfl⟩ := fuel_s h2
    rw [lX1_readSpan_27.eq_2, if_neg (nI_nlt (by omega) (by omega)), if_pos h, q_one (by omega), q_or, plet_eq, nI_1, ih (a + 1) _ G (by omega) (by omega), spN_s]
theorem mspan_run {τ : pS} {b : Nat} (hb : b ≤ 11) (h : pI τ 0 16 = nI b) (x y z : Int32) (k : Int32 → Option (Int32 × pS)) : ∀ q a acc F, a + q = b + 1 → q < F → lX5_readsOne_141 τ x y z k F (nI acc) (nI a) = k (nI (spN acc a q)) := by
  intro q
  induction q with
  | zero =>
    intro a acc F h1 h2
    obtain ⟨G, rfl⟩ := fuel_s h2
    rw [lX5_readsOne_141.eq_2, h, if_pos (nI_lt (by omega) (by omega))]
    rfl
  | succ q ih =>
    intro a acc F h1 h2
    obtain ⟨G, rfl⟩ := fuel_s h2
    rw [lX5_readsOne_141.eq_2, h, if_neg (nI_nlt (by omega) (by omega)), q_one (by omega), q_or, plet_eq, nI_1, ih (a + 1) _ G (by omega) (by omega), spN_s]
theorem dspan {σ : pS} (h : pI σ 1 3 = 1) (a b c : Int32) (k : Int32 → Option (Int32 × pS)) (F : Nat) : lX1_readSpan_27 σ a k (F + 1) b c = k b := by
  rw [lX1_readSpan_27.eq_2]
  split
  · rfl
  · rw [if_neg (by rw [h]; decide)]
section
variable {σ0 τ0 : pS} {k n : Nat} {np nd : Nat}
theorem rspan (C : HC σ0 τ0 k n) {σ τ : pS} {p : Nat} (A : RA σ0 τ0 k n σ τ p np nd) {acc : Nat} (ha : acc < 4096) (p2 p3 : Int32) (K : Int32 → pS → Option (Int32 × pS)) : ∃ x σ1, fX1_readSpan σ = some (x, σ1) ∧ ((∃ τ1 hrs p', (pbind (fX5_number τ (nI k) (0 : Int32) (11 : Int32)) fun r14 σ15 => if r14 = 0 then some ((0 : Int32), σ15) else plet (pI σ15 0 16) fun x16 => pbind (fX5_sign σ15 (nI k) (45 : Int32)) fun r18 σ19 => if r18 = 0 then some ((0 : Int32), σ19) else pbind (fX5_number σ19 (nI k) x16 (11 : Int32)) fun r21 σ22 => if r21 = 0 then some ((0 : Int32), σ22) else lX5_readsOne_141 σ22 (nI k) p2 p3 (fun (y24 : Int32) => K y24 σ22) FU (nI acc) x16) = K (nI (acc ||| hrs)) τ1 ∧ x = nI hrs ∧ hrs < 4096 ∧ p < p' ∧ RA σ0 τ0 k n σ1 τ1 p' np nd) ∨ (∃ τ1 p', (pbind (fX5_number τ (nI k) (0 : Int32) (11 : Int32)) fun r14 σ15 => if r14 = 0 then some ((0 : Int32), σ15) else plet (pI σ15 0 16) fun x16 => pbind (fX5_sign σ15 (nI k) (45 : Int32)) fun r18 σ19 => if r18 = 0 then some ((0 : Int32), σ19) else pbind (fX5_number σ19 (nI k) x16 (11 : Int32)) fun r21 σ22 => if r21 = 0 then some ((0 : Int32), σ22) else lX5_readsOne_141 σ22 (nI k) p2 p3 (fun (y24 : Int32) => K y24 σ22) FU (nI acc) x16) = some (0, τ1) ∧ RZ σ0 τ0 k n σ1 τ1 p')) := by
  unfold fX1_readSpan
  obtain ⟨x1, s1, r1, t1, p1, e1, e2, e3⟩ := rnum C A (lo := 0) (hi := 11) (by decide) (by decide)
  rw [show (0 : Int32) = nI 0 from rfl, show (11 : Int32) = nI 11 from rfl, e1, e2, pbind_some, pbind_some]
  rcases e3 with ⟨rfl, q1, v1, v2, v3, rfl, v5, B⟩ | ⟨rfl, Z⟩
  · rw [if_neg (show ¬ (1 : Int32) = nI 0 by decide), v5, plet_eq]
    obtain ⟨s2, r2, t2, f1, f2, f3⟩ := rsign C B (c := 45) (by decide)
    rw [f1, f2, pbind_some, pbind_some]
    rcases f3 with ⟨rfl, B2⟩ | ⟨rfl, Z⟩
    · rw [if_neg (show ¬ (1 : Int32) = nI 0 by decide)]
      obtain ⟨x3, s3, r3, t3, p3', g1, g2, g3⟩ := rnum C B2 (lo := v1) (hi := 11) (by omega) (by decide)
      rw [g1, g2, pbind_some, pbind_some]
      rcases g3 with ⟨rfl, q2, w1, w2, w3, rfl, w5, B3⟩ | ⟨rfl, Z⟩
      · rw [if_neg (show ¬ (1 : Int32) = nI 0 by decide)]
        have X := xspan_run B3.2.2.2.1 w3 (fun y11 => some (y11, s3)) (w1 + 1 - v1) v1 0 FU (by omega) (by simp [FU]; omega)
        have M := mspan_run w3 w5 (nI k) p2 p3 (fun y24 => K y24 t3) (w1 + 1 - v1) v1 acc FU (by omega) (by simp [FU]; omega)
        rw [X, M]
        refine ⟨_, _, rfl, Or.inl ⟨t3, spN 0 v1 (w1 + 1 - v1), p3', ?_, rfl, spN_lt _ _ _ (by decide) (by omega), by omega, B3⟩⟩
        rw [spN_or]
      · rw [if_pos (show (0 : Int32) = nI 0 by decide), show FU = 999 + 1 from rfl, dspan Z.2.2.2]
        exact ⟨_, _, rfl, Or.inr ⟨t3, p3', rfl, Z⟩⟩
    · rw [if_pos (show (0 : Int32) = nI 0 by decide), dnum Z.2.2.2, pbind_some, show FU = 999 + 1 from rfl, dspan Z.2.2.2]
      exact ⟨_, _, rfl, Or.inr ⟨t2, p1, rfl, Z⟩⟩
  · rw [if_pos (show (0 : Int32) = nI 0 by decide), dsign Z.2.2.2, pbind_some, dnum Z.2.2.2, pbind_some, show FU = 999 + 1 from rfl, dspan Z.2.2.2]
    exact ⟨_, _, rfl, Or.inr ⟨t1, p1, rfl, Z⟩⟩
theorem dpers {σ : pS} (h : pI σ 1 3 = 1) (x1 x2 : Int32) (kX : Int32 → pS → Option (Unit × pS)) (y z : Int32) (F : Nat) : lX1_readPerson_65 x1 x2 kX (F + 1) y z σ = kX y σ := by
  rw [lX1_readPerson_65.eq_2]
  split
  · rfl
  · rw [if_neg (by rw [h]; decide)]
theorem rspans (C : HC σ0 τ0 k n) (x1 x2 p2 p3 : Int32) (kX : Int32 → pS → Option (Unit × pS)) (kM : Int32 → pS → Option (Int32 × pS)) (hk : ∀ y σ, pI σ 1 3 = 1 → kX y σ = some ((), σ)) : ∀ q F G turn acc σ τ p, RA σ0 τ0 k n σ τ p np nd → n - p ≤ q → q < F → q < G → turn ≤ p → acc < 4096 → (∃ acc' σ1 τ1 p', lX1_readPerson_65 x1 x2 kX F (nI acc) (nI turn) σ = kX (nI acc') σ1 ∧ lX5_readsOne_84 (nI k) p2 p3 kM G (nI acc) τ = kM (nI acc') τ1 ∧ RA σ0 τ0 k n σ1 τ1 p' np nd ∧ p ≤ p' ∧ acc' < 4096) ∨ (∃ σ1 τ1 p', lX1_readPerson_65 x1 x2 kX F (nI acc) (nI turn) σ = some ((), σ1) ∧ lX5_readsOne_84 (nI k) p2 p3 kM G (nI acc) τ = some (0, τ1) ∧ RZ σ0 τ0 k n σ1 τ1 p') := by
  intro q
  induction q with
  | zero =>
    intro F G turn acc σ τ p A h1 h2 h3 h4 h5
    obtain ⟨F, rfl⟩ := fuel_s h2
    obtain ⟨G, rfl⟩ := fuel_s h3
    have c2 := C.2.1
    have no : ¬ TX τ0 k n p = 97 := fun z => by have := TX_lt z (by decide); omega
    left
    refine ⟨acc, σ, τ, p, ?_, ?_, A, Nat.le_refl _, h5⟩
    · rw [lX1_readPerson_65.eq_2, A.1.2.2.2.2, next_eq C A (c := 97) (by decide), if_pos A.2.2.2.1, obind_some, decide_eq_false no, if_pos (show b2i false = 0 from rfl)]
      split <;> rfl
    · rw [lX5_readsOne_84.eq_2, sign_no C A no, pbind_some, if_pos rfl]
  | succ q ih =>
    intro F G turn acc σ τ p A h1 h2 h3 h4 h5
    obtain ⟨F, rfl⟩ := fuel_s h2
    obtain ⟨G, rfl⟩ := fuel_s h3
    have c2 := C.2.1
    by_cases no : TX τ0 k n p = 97
    · have hp := TX_lt no (by decide)
      have A1 := RA_pl C A hp
      obtain ⟨x, s1, e1, e2⟩ := rspan C A1 h5 p2 p3 (fun y24 σ22 => lX5_readsOne_84 (nI k) p2 p3 kM G y24 σ22)
      have X : lX1_readPerson_65 x1 x2 kX (F + 1) (nI acc) (nI turn) σ = lX1_readPerson_65 x1 x2 kX F (nI acc ||| x) (nI (turn + 1)) s1 := by
        rw [lX1_readPerson_65.eq_2, A.1.2.2.2.2, if_neg (nI_nge (by omega) (by omega)), if_pos A.2.2.2.1, next_eq C A (c := 97) (by decide), obind_some, decide_eq_true no, if_neg (show ¬ b2i true = 0 by decide), A.2.2.1.2.1, nI_1, plet_eq, e1, pbind_some, plet_eq, nI_1]
      rw [X, lX5_readsOne_84.eq_2, sign_yes C A no, pbind_some, if_neg i10]
      rcases e2 with ⟨t1, hrs, p', m1, rfl, hh, pp, B⟩ | ⟨t1, p', m1, Z⟩
      · rw [m1, q_or]
        rcases ih F G (turn + 1) (acc ||| hrs) s1 t1 p' B (by omega) (by omega) (by omega) (by omega) (Nat.or_lt_two_pow (n := 12) h5 hh) with ⟨acc', s2, t2, p'', g1, g2, g3, g4, g5⟩ | ⟨s2, t2, p'', g1, g2, g3⟩
        · exact Or.inl ⟨acc', s2, t2, p'', g1, g2, g3, by omega, g5⟩
        · exact Or.inr ⟨s2, t2, p'', g1, g2, g3⟩
      · right
        obtain ⟨F', rfl⟩ : ∃ F', F = F' + 1 := ⟨F - 1, by omega⟩
        refine ⟨s1, t1, p', ?_, m1, Z⟩
        rw [dpers Z.2.2.2, hk _ _ Z.2.2.2]
    · left
      refine ⟨acc, σ, τ, p, ?_, ?_, A, Nat.le_refl _, h5⟩
      · rw [lX1_readPerson_65.eq_2, A.1.2.2.2.2, next_eq C A (c := 97) (by decide), if_pos A.2.2.2.1, obind_some, decide_eq_false no, if_pos (show b2i false = 0 from rfl)]
        split <;> rfl
      · rw [lX5_readsOne_84.eq_2, sign_no C A no, pbind_some, if_pos rfl]
theorem kind_cases (b : Int32) : (∃ kd, kd < 6 ∧ b = hsg kd ∧ fX5_kindOf b = some (nI kd) ∧ ∀ j, j < kd → ¬ b = hsg j) ∨ ((∀ j, j < 6 → ¬ b = hsg j) ∧ fX5_kindOf b = some (-9)) := by
  by_cases h0 : b = 104
  · left; exact ⟨0, by decide, h0, by rw [h0]; rfl, fun j hj => absurd hj (Nat.not_lt_zero j)⟩
  by_cases h1 : b = 107
  · left; refine ⟨1, by decide, h1, by rw [h1]; rfl, fun j hj => ?_⟩
    have : j = 0 := by omega
    subst this; exact h0
  by_cases h2 : b = 115
  · left; refine ⟨2, by decide, h2, by rw [h2]; rfl, fun j hj => ?_⟩
    rcases (show j = 0 ∨ j = 1 by omega) with rfl | rfl
    · exact h0
    · exact h1
  by_cases h3 : b = 109
  · left; refine ⟨3, by decide, h3, by rw [h3]; rfl, fun j hj => ?_⟩
    rcases (show j = 0 ∨ j = 1 ∨ j = 2 by omega) with rfl | rfl | rfl
    · exact h0
    · exact h1
    · exact h2
  by_cases h4 : b = 108
  · left; refine ⟨4, by decide, h4, by rw [h4]; rfl, fun j hj => ?_⟩
    rcases (show j = 0 ∨ j = 1 ∨ j = 2 ∨ j = 3 by omega) with rfl | rfl | rfl | rfl
    · exact h0
    · exact h1
    · exact h2
    · exact h3
  by_cases h5 : b = 121
  · left; refine ⟨5, by decide, h5, by rw [h5]; rfl, fun j hj => ?_⟩
    rcases (show j = 0 ∨ j = 1 ∨ j = 2 ∨ j = 3 ∨ j = 4 by omega) with rfl | rfl | rfl | rfl | rfl
    · exact h0
    · exact h1
    · exact h2
    · exact h3
    · exact h4
  right
  refine ⟨fun j hj => ?_, ?_⟩
  · rcases six hj with rfl | rfl | rfl | rfl | rfl | rfl
    · exact h0
    · exact h1
    · exact h2
    · exact h3
    · exact h4
    · exact h5
  · unfold fX5_kindOf
    rw [if_neg h0, if_neg h1, if_neg h4, if_neg h3, if_neg h2, if_neg h5]
    simp
theorem hsg_ne0 : ∀ j, j < 6 → ¬ hsg j = 0 := by decide
theorem house_yes (C : HC σ0 τ0 k n) {σ τ : pS} {p : Nat} (A : RA σ0 τ0 k n σ τ p np nd) {kd : Nat} (hk : kd < 6) (h : TX τ0 k n p = hsg kd) (hl : ∀ j, j < kd → ¬ TX τ0 k n p = hsg j) : fX1_readHouseSign σ = some (nI kd, sI σ 1 2 (nI (p + 1))) := by
  unfold fX1_readHouseSign
  refine whP (fun F (_ : Unit) v => lX1_readHouseSign_2 σ _ F v) (n := kd + 1) (by omega) (fun j _ => ∀ i, i < j → ¬ TX τ0 k n p = hsg i) (fun o => o = some (nI kd, sI σ 1 2 (nI (p + 1)))) () (fun i hi => absurd hi (Nat.not_lt_zero i)) (fun F _ hI => absurd h (hI kd (by omega))) (fun F _ j hj hI => ?_)
  have e : ∀ kk, lX1_readHouseSign_2 σ kk (F + 1) (nI j) = if TX τ0 k n p = hsg j then some (nI j, sI σ 1 2 (nI (p + 1))) else lX1_readHouseSign_2 σ kk F (nI (j + 1)) := fun kk => by
    rw [lX1_readHouseSign_2.eq_2, if_neg (show ¬ (6 : Int32) ≤ nI j from nI_nge (b := 6) (by omega) (by decide)), if_pos A.2.2.2.1, pin_lit (show j < 6 by omega) (by decide), if_pos rfl, nI_clamp (show j < 2 ^ 31 by omega), next_eq C A (hsg_ne0 j (by omega)), obind_some, nI_1, A.2.2.1.2.1, nI_1]
    simp only [plet_eq, b2i_0, decide_eq_false_iff_not]
    by_cases z : TX τ0 k n p = hsg j
    · rw [if_neg (fun y => y z), if_pos z]
    · rw [if_pos z, if_neg z]
  by_cases z : TX τ0 k n p = hsg j
  · right
    have : j = kd := by
      rcases Nat.lt_or_ge j kd with y | y
      · exact absurd z (hl j y)
      · omega
    show lX1_readHouseSign_2 σ _ (F + 1) _ = _
    rw [e, if_pos z, this]
  · left
    refine ⟨(), ?_, fun i hi => ?_⟩
    · show lX1_readHouseSign_2 σ _ (F + 1) _ = _
      rw [e, if_neg z]
    · by_cases y : i = j
      · rw [y]; exact z
      · exact hI i (by omega)
theorem house_no (C : HC σ0 τ0 k n) {σ τ : pS} {p : Nat} (A : RA σ0 τ0 k n σ τ p np nd) (hl : ∀ j, j < 6 → ¬ TX τ0 k n p = hsg j) : fX1_readHouseSign σ = some (0, sI σ 1 3 1) := by
  unfold fX1_readHouseSign
  refine whF (fun F (_ : Unit) v => lX1_readHouseSign_2 σ _ F v) (n := 6) (by decide) (fun _ => ()) _ (fun F => ?_) (fun F j hj => ?_)
  · show lX1_readHouseSign_2 σ _ (F + 1) _ = _
    rw [lX1_readHouseSign_2.eq_2, if_pos (show (6 : Int32) ≤ nI 6 by decide)]
    rfl
  · show lX1_readHouseSign_2 σ _ (F + 1) _ = _
    rw [lX1_readHouseSign_2.eq_2, if_neg (show ¬ (6 : Int32) ≤ nI j from nI_nge (b := 6) hj (by decide)), if_pos A.2.2.2.1, pin_lit hj (by decide), if_pos rfl, nI_clamp (show j < 2 ^ 31 by omega), next_eq C A (hsg_ne0 j hj), obind_some, nI_1, decide_eq_false (hl j hj), if_pos (show b2i false = 0 from rfl)]
def mateOk (kd np : Nat) (y : Int32) : Prop := ((kd = 3 ∨ kd = 4) → ∃ m, m < np ∧ y = nI m) ∧ (¬ (kd = 3 ∨ kd = 4) → y = -9)
theorem add_one (C : HC σ0 τ0 k n) {σ τ : pS} {p : Nat} (A : RA σ0 τ0 k n σ τ p np nd) (hn : np < 6) {kd o : Nat} (hk : kd < 6) (ho : o < 4096) {y : Int32} (hy : mateOk kd np y) : ∃ σ1 τ1, fX3_addPerson σ (pR σ 1 4) (nI kd) y (nI o) = some ((), σ1) ∧ (plet ((4 : Int32) * (pI τ 0 17)) fun x27 => if pin x27 24 then plet (sI τ 9 (x27).toNatClampNeg (nI kd)) fun σ28 => if pin (x27 + (1 : Int32)) 24 then plet (sI σ28 9 ((x27 + (1 : Int32))).toNatClampNeg y) fun σ29 => if pin (x27 + (2 : Int32)) 24 then plet (sI σ29 9 ((x27 + (2 : Int32))).toNatClampNeg (nI o)) fun σ30 => if pin (x27 + (3 : Int32)) 24 then plet (sI σ30 9 ((x27 + (3 : Int32))).toNatClampNeg (5 : Int32)) fun σ31 => plet (sI σ31 0 17 ((pI σ31 0 17) + (1 : Int32))) fun σ32 => some ((1 : Int32), σ32) else none else none else none else none) = some (1, τ1) ∧ RA σ0 τ0 k n σ1 τ1 p (np + 1) nd := by
  have w46 := vs46 C.2.2.2.2
  have ew : pR σ 1 4 = vs σ0 := A.1.2.2.1 1 4 (by decide)
  obtain ⟨a1, a2, ⟨b1, b2, b3⟩, a4, ⟨v1, v2⟩, ⟨v3, v4, v5⟩, ⟨v6, v7⟩, v8, v9⟩ := A
  have e4 : (4 : Int32) * nI np = nI (4 * np) := by rw [show (4 : Int32) = nI 4 from rfl, pk_mul]
  refine ⟨sI (sI (sI (sI (sI σ (vs σ0 + 1) np (nI kd)) (vs σ0 + 2) np y) (vs σ0 + 3) np (nI o)) (vs σ0 + 4) np 5) (vs σ0) 0 (nI (np + 1)), sI (sI (sI (sI (sI τ 9 (4 * np) (nI kd)) 9 (4 * np + 1) y) 9 (4 * np + 2) (nI o)) 9 (4 * np + 3) 5) 0 17 (nI (np + 1)), ?_, ?_, ?_⟩
  · unfold fX3_addPerson
    simp only [plet_eq, ew]
    rw [C.2.2.2.2, if_pos rfl]
    simp only [pI_sI_ne (show vs σ0 ≠ vs σ0 + 1 by omega), pI_sI_ne (show vs σ0 ≠ vs σ0 + 2 by omega), pI_sI_ne (show vs σ0 ≠ vs σ0 + 3 by omega), pI_sI_ne (show vs σ0 ≠ vs σ0 + 4 by omega), v3, pin_lit hn (show 6 ≤ 2 ^ 31 by decide), nI_clamp (show np < 2 ^ 31 by omega), if_true, nI_1]
    rw [if_neg (show ¬ (6 : Int32) ≤ nI np from nI_nge (b := 6) hn (by decide))]
  · rw [v6, e4]
    simp only [plet_eq, show (1 : Int32) = nI 1 from rfl, show (2 : Int32) = nI 2 from rfl, show (3 : Int32) = nI 3 from rfl, nI_add, pin_lit (show 4 * np < 24 by omega) (show 24 ≤ 2 ^ 31 by decide), pin_lit (show 4 * np + 1 < 24 by omega) (show 24 ≤ 2 ^ 31 by decide), pin_lit (show 4 * np + 2 < 24 by omega) (show 24 ≤ 2 ^ 31 by decide), pin_lit (show 4 * np + 3 < 24 by omega) (show 24 ≤ 2 ^ 31 by decide), if_true, nI_clamp (show 4 * np < 2 ^ 31 by omega), nI_clamp (show 4 * np + 1 < 2 ^ 31 by omega), nI_clamp (show 4 * np + 2 < 2 ^ 31 by omega), nI_clamp (show 4 * np + 3 < 2 ^ 31 by omega), pI_sI_ne (show 0 ≠ 9 by decide), v6]
  · refine ⟨⟨fun e i q1 q2 => ?_, a1.2.1, a1.2.2.1, a1.2.2.2.1, ?_⟩, ⟨fun e i q1 q2 q3 => ?_, a2.2⟩, ⟨b1, ?_, ?_⟩, ?_, ⟨by omega, v2⟩, ⟨pI_sI_eq, ?_, ?_⟩, ⟨pI_sI_eq, ?_⟩, fun q hq => ?_, fun d hd => ?_⟩
    · rw [pI_sI_ne (by omega), pI_sI_ne (by omega), pI_sI_ne (by omega), pI_sI_ne (by omega), pI_sI_ne (by omega)]; exact a1.1 e i q1 q2
    · rw [pI_sI_ne (by omega), pI_sI_ne (by omega), pI_sI_ne (by omega), pI_sI_ne (by omega), pI_sI_ne (by omega)]; exact a1.2.2.2.2
    · rw [pI_sI, if_neg (fun z => q3 (by omega)), pI_sI_ne q1, pI_sI_ne q1, pI_sI_ne q1, pI_sI_ne q1]; exact a2.1 e i q1 q2 q3
    · rw [pI_sI_ne (by omega), pI_sI_ne (by omega), pI_sI_ne (by omega), pI_sI_ne (by omega), pI_sI_ne (by omega)]; exact b2
    · rw [pI_sI_nj (by decide), pI_sI_ne (by decide), pI_sI_ne (by decide), pI_sI_ne (by decide), pI_sI_ne (by decide)]; exact b3
    · rw [pI_sI_ne (by omega), pI_sI_ne (by omega), pI_sI_ne (by omega), pI_sI_ne (by omega), pI_sI_ne (by omega)]; exact a4
    · rw [pI_sI_nj (by decide), pI_sI_ne (by omega), pI_sI_ne (by omega), pI_sI_ne (by omega), pI_sI_ne (by omega)]; exact v4
    · rw [pI_sI_nj (by decide), pI_sI_ne (by omega), pI_sI_ne (by omega), pI_sI_ne (by omega), pI_sI_ne (by omega)]; exact v5
    · rw [pI_sI_nj (by decide), pI_sI_ne (by decide), pI_sI_ne (by decide), pI_sI_ne (by decide), pI_sI_ne (by decide)]; exact v7
    · unfold VP
      by_cases z : q = np
      · subst z
        have g0 : pI (sI (sI (sI (sI (sI τ 9 (4 * q) (nI kd)) 9 (4 * q + 1) y) 9 (4 * q + 2) (nI o)) 9 (4 * q + 3) 5) 0 17 (nI (q + 1))) 9 (4 * q) = nI kd := by rw [pI_sI_ne (by decide), pI_sI_nj (by omega), pI_sI_nj (by omega), pI_sI_nj (by omega), pI_sI_eq]
        have g1 : pI (sI (sI (sI (sI (sI τ 9 (4 * q) (nI kd)) 9 (4 * q + 1) y) 9 (4 * q + 2) (nI o)) 9 (4 * q + 3) 5) 0 17 (nI (q + 1))) 9 (4 * q + 1) = y := by rw [pI_sI_ne (by decide), pI_sI_nj (by omega), pI_sI_nj (by omega), pI_sI_eq]
        have g2 : pI (sI (sI (sI (sI (sI τ 9 (4 * q) (nI kd)) 9 (4 * q + 1) y) 9 (4 * q + 2) (nI o)) 9 (4 * q + 3) 5) 0 17 (nI (q + 1))) 9 (4 * q + 2) = nI o := by rw [pI_sI_ne (by decide), pI_sI_nj (by omega), pI_sI_eq]
        have g3 : pI (sI (sI (sI (sI (sI τ 9 (4 * q) (nI kd)) 9 (4 * q + 1) y) 9 (4 * q + 2) (nI o)) 9 (4 * q + 3) 5) 0 17 (nI (q + 1))) 9 (4 * q + 3) = nI 5 := by rw [pI_sI_ne (by decide), pI_sI_eq]; rfl
        rw [g0, g1, g2, g3]
        refine ⟨⟨?_, ?_, ?_, ?_⟩, kd, hk, rfl, fun z => ?_, hy.2, ⟨o, ho, rfl⟩, rfl⟩
        · rw [pI_sI_ne (by omega), pI_sI_ne (by omega), pI_sI_ne (by omega), pI_sI_ne (by omega), pI_sI_eq]
        · rw [pI_sI_ne (by omega), pI_sI_ne (by omega), pI_sI_ne (by omega), pI_sI_eq]
        · rw [pI_sI_ne (by omega), pI_sI_ne (by omega), pI_sI_eq]
        · rw [pI_sI_ne (by omega), pI_sI_eq]; rfl
        · obtain ⟨m, m1, m2⟩ := hy.1 z
          exact ⟨m, by omega, m2⟩
      · have keep : ∀ j, j < 4 → pI (sI (sI (sI (sI (sI τ 9 (4 * np) (nI kd)) 9 (4 * np + 1) y) 9 (4 * np + 2) (nI o)) 9 (4 * np + 3) 5) 0 17 (nI (np + 1))) 9 (4 * q + j) = pI τ 9 (4 * q + j) := fun j hj => by rw [pI_sI_ne (by decide), pI_sI_nj (by omega), pI_sI_nj (by omega), pI_sI_nj (by omega), pI_sI_nj (by omega)]
        have k0 := keep 0 (by decide)
        simp only [Nat.add_zero] at k0
        rw [k0, keep 1 (by decide), keep 2 (by decide), keep 3 (by decide)]
        have keepX : ∀ j, j < 9 → 0 < j → pI (sI (sI (sI (sI (sI σ (vs σ0 + 1) np (nI kd)) (vs σ0 + 2) np y) (vs σ0 + 3) np (nI o)) (vs σ0 + 4) np 5) (vs σ0) 0 (nI (np + 1))) (vs σ0 + j) q = pI σ (vs σ0 + j) q := fun j hj h0 => by rw [pI_sI_ne (by omega), pI_sI_nj z, pI_sI_nj z, pI_sI_nj z, pI_sI_nj z]
        rw [keepX 1 (by decide) (by decide), keepX 2 (by decide) (by decide), keepX 3 (by decide) (by decide), keepX 4 (by decide) (by decide)]
        obtain ⟨w1, kd', w2, w3, w4, w5, w6, w7⟩ := v8 q (by omega)
        exact ⟨w1, kd', w2, w3, fun z' => by obtain ⟨m, m1, m2⟩ := w4 z'; exact ⟨m, by omega, m2⟩, w5, w6, w7⟩
    · have := v9 d hd
      unfold VD at this ⊢
      have keepM : ∀ i, pI (sI (sI (sI (sI (sI τ 9 (4 * np) (nI kd)) 9 (4 * np + 1) y) 9 (4 * np + 2) (nI o)) 9 (4 * np + 3) 5) 0 17 (nI (np + 1))) 10 i = pI τ 10 i := fun i => by rw [pI_sI_ne (by decide), pI_sI_ne (by decide), pI_sI_ne (by decide), pI_sI_ne (by decide), pI_sI_ne (by decide)]
      have keepX : ∀ j, 5 ≤ j → j < 9 → pI (sI (sI (sI (sI (sI σ (vs σ0 + 1) np (nI kd)) (vs σ0 + 2) np y) (vs σ0 + 3) np (nI o)) (vs σ0 + 4) np 5) (vs σ0) 0 (nI (np + 1))) (vs σ0 + j) d = pI σ (vs σ0 + j) d := fun j h5 h9 => by rw [pI_sI_ne (by omega), pI_sI_ne (by omega), pI_sI_ne (by omega), pI_sI_ne (by omega), pI_sI_ne (by omega)]
      simp only [keepM]
      rw [keepX 5 (by decide) (by decide), keepX 6 (by decide) (by decide), keepX 7 (by decide) (by decide), keepX 8 (by decide) (by decide)]
      obtain ⟨w1, x, y', v, i, w2, w3, w4⟩ := this
      exact ⟨w1, x, y', v, i, by omega, by omega, w4⟩
end
