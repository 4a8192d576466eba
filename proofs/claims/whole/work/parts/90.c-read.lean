/-! PURE: the two readers side by side: items, the whole text; fault -/
def kXp (r4 y7 : Int32) : Int32 → pS → Option (Unit × pS) := fun (y16 : Int32) (σ17 : pS) => if (pI σ17 1 3) = 0 then (if isV (pR σ17 1 4) then (pbind (fX3_addPerson σ17 (pR σ17 1 4) r4 y7 y16) fun _ σ21 => some ((), σ21)) else none) else some ((), σ17)
def kMp (r5 y8 : Int32) : Int32 → pS → Option (Int32 × pS) := fun (y25 : Int32) (σ26 : pS) => plet ((4 : Int32) * (pI σ26 0 17)) fun x27 => if pin x27 24 then plet (sI σ26 9 (x27).toNatClampNeg r5) fun σ28 => if pin (x27 + (1 : Int32)) 24 then plet (sI σ28 9 ((x27 + (1 : Int32))).toNatClampNeg y8) fun σ29 => if pin (x27 + (2 : Int32)) 24 then plet (sI σ29 9 ((x27 + (2 : Int32))).toNatClampNeg y25) fun σ30 => if pin (x27 + (3 : Int32)) 24 then plet (sI σ30 9 ((x27 + (3 : Int32))).toNatClampNeg (5 : Int32)) fun σ31 => plet (sI σ31 0 17 ((pI σ31 0 17) + (1 : Int32))) fun σ32 => some ((1 : Int32), σ32) else none else none else none else none
theorem kXp_dead {r y z : Int32} {σ : pS} (h : pI σ 1 3 = 1) : kXp r y z σ = some ((), σ) := by
  unfold kXp
  rw [if_neg (by rw [h]; decide)]
section
variable {σ0 τ0 : pS} {k n : Nat} {np nd : Nat}
theorem pers_end (C : HC σ0 τ0 k n) {σ τ : pS} {p : Nat} (A : RA σ0 τ0 k n σ τ p np nd) (hn : np < 6) {kd : Nat} (hk : kd < 6) {y : Int32} (hy : mateOk kd np y) : ∃ σ1 r τ1 p', lX1_readPerson_65 (nI kd) y (kXp (nI kd) y) FU (nI 0) (nI 0) σ = some ((), σ1) ∧ lX5_readsOne_84 (nI k) (nI kd) y (kMp (nI kd) y) FU (nI 0) τ = some (r, τ1) ∧ ((r = 1 ∧ p ≤ p' ∧ RA σ0 τ0 k n σ1 τ1 p' (np + 1) nd) ∨ (r = 0 ∧ RZ σ0 τ0 k n σ1 τ1 p')) := by
  have c2 := C.2.1
  rcases rspans C (nI kd) y (nI kd) y (kXp (nI kd) y) (kMp (nI kd) y) (fun _ _ h => kXp_dead h) n FU FU 0 0 σ τ p A (by omega) (by simp [FU]; omega) (by simp [FU]; omega) (Nat.zero_le _) (by decide) with ⟨acc, s1, t1, p', e1, e2, B, e4, e5⟩ | ⟨s1, t1, p', e1, e2, Z⟩
  · obtain ⟨s2, t2, f1, f2, f3⟩ := add_one C B hn hk e5 hy
    refine ⟨s2, 1, t2, p', ?_, ?_, Or.inl ⟨rfl, e4, f3⟩⟩
    · rw [e1]
      unfold kXp
      rw [if_pos B.2.2.2.1, show pR s1 1 4 = vs σ0 from B.1.2.2.1 1 4 (by decide), C.2.2.2.2, if_pos rfl, ← show pR s1 1 4 = vs σ0 from B.1.2.2.1 1 4 (by decide), f1]
      rfl
    · rw [e2]
      exact f2
  · exact ⟨s1, 0, t1, p', e1, e2, Or.inr ⟨rfl, Z⟩⟩
/-- as plet_eq, but no definitional step for simp: the kernel needn't compare loops -/
theorem plet_q {α β : Type} {v : α} {k : α → β} : plet v k = k v := Eq.trans rfl rfl
theorem rperson (C : HC σ0 τ0 k n) {σ τ : pS} {p : Nat} (A : RA σ0 τ0 k n σ τ p np nd) (h112 : TX τ0 k n p = 112) : ∃ σ1 r τ1 p', fX1_readPerson σ = some ((), σ1) ∧ fX5_readsOne τ (nI k) = some (r, τ1) ∧ ((r = 1 ∧ p < p' ∧ RA σ0 τ0 k n σ1 τ1 p' (np + 1) nd) ∨ (r = 0 ∧ RZ σ0 τ0 k n σ1 τ1 p')) := by
  have hp := TX_lt h112 (by decide)
  have ew : pR σ 1 4 = vs σ0 := A.1.2.2.1 1 4 (by decide)
  have n6 := A.2.2.2.2.1.1
  have A1 := RA_pl C A hp
  unfold fX1_readPerson fX5_readsOne
  rw [ew, C.2.2.2.2, if_pos rfl, A.2.2.2.2.2.1.1, A.2.2.2.2.2.2.1.1]
  by_cases q : np < 6
  · rw [if_pos (show nI np < (6 : Int32) from nI_lt (b := 6) q (by decide)), if_neg (show ¬ nI np = (6 : Int32) from fun z => by have := (nI_lit (w := np) (n := 6) (by omega) (by decide) rfl).mp z; omega), A.2.2.1.2.1, A.2.2.1.2.2, nI_1]
    simp only [plet_q]
    rw [byte_eq C A1, obind_some]
    rcases kind_cases (TX τ0 k n (p + 1)) with ⟨kd, k1, k2, k3, k4⟩ | ⟨k1, k2⟩
    · have hp1 : p + 1 < n := TX_lt k2 (hsg_ne0 kd k1)
      have A2 := RA_pl C A1 hp1
      rw [k3, obind_some, if_neg (nI_ne_m9 (show kd < 2 ^ 31 by omega)), house_yes C A1 k1 k2 k4, pbind_some, A1.2.2.1.2.2, nI_1, if_pos A2.2.2.2.1]
      have l3 : (nI kd = (3 : Int32)) = (kd = 3) := nI_lit (by omega) (by decide) rfl
      have l4 : (nI kd = (4 : Int32)) = (kd = 4) := nI_lit (by omega) (by decide) rfl
      simp only [l3, l4]
      have shared : (kd = 3 ∨ kd = 4) → ∃ σ1 r τ1 p', (pbind (fX1_readLetter (sI (sI σ 1 2 (nI (p + 1))) 1 2 (nI (p + 1 + 1))) (-9 : Int32)) fun r24 σ25 => lX1_readPerson_65 (nI kd) r24 (kXp (nI kd) r24) FU (nI 0) (nI 0) σ25) = some ((), σ1) ∧ (pbind (fX5_letter (sI (sI τ 0 15 (nI (p + 1))) 0 15 (nI (p + 1 + 1))) (nI k) (-1 : Int32)) fun r35 σ36 => if r35 = 0 then some ((0 : Int32), σ36) else lX5_readsOne_84 (nI k) (nI kd) (pI σ36 0 16) (kMp (nI kd) (pI σ36 0 16)) FU (nI 0) σ36) = some (r, τ1) ∧ ((r = 1 ∧ p < p' ∧ RA σ0 τ0 k n σ1 τ1 p' (np + 1) nd) ∨ (r = 0 ∧ RZ σ0 τ0 k n σ1 τ1 p')) := fun z => by
        obtain ⟨x, s1, r1, t1, e1, e2, e3⟩ := rlet C A2 (u := -9) (m := -1) (fun v hv => ⟨fun y => absurd y (nI_ne_m9 (by omega)), fun y => absurd y (nI_ne_m1 (by omega))⟩)
        rw [e1, e2, pbind_some, pbind_some]
        rcases e3 with ⟨rfl, v, v1, rfl, v3, v4, B⟩ | ⟨rfl, Z⟩
        · rw [if_neg i10, v3]
          obtain ⟨s2, r2, t2, p', f1, f2, f3⟩ := pers_end C B q k1 (y := nI v) ⟨fun _ => ⟨v, v1, rfl⟩, fun w => absurd z w⟩
          refine ⟨s2, r2, t2, p', f1, f2, ?_⟩
          rcases f3 with ⟨g1, g2, g3⟩ | g
          · exact Or.inl ⟨g1, by omega, g3⟩
          · exact Or.inr g
        · rw [if_pos rfl, show FU = 999 + 1 from rfl, dpers Z.2.2.2, kXp_dead Z.2.2.2]
          exact ⟨s1, 0, t1, p + 1 + 1, rfl, rfl, Or.inr ⟨rfl, Z⟩⟩
      by_cases z3 : kd = 3
      · rw [if_pos z3, if_pos z3]
        obtain ⟨s2, r2, t2, p', f1, f2, f3⟩ := shared (Or.inl z3)
        unfold kXp at f1
        unfold kMp at f2
        simp only [plet_q] at f1 f2
        rw [show nI 0 = (0 : Int32) from rfl] at f1 f2
        exact ⟨s2, r2, t2, p', f1, f2, f3⟩
      · rw [if_neg z3, if_neg z3]
        by_cases z4 : kd = 4
        · rw [if_pos z4, if_pos z4]
          obtain ⟨s2, r2, t2, p', f1, f2, f3⟩ := shared (Or.inr z4)
          unfold kXp at f1
          unfold kMp at f2
          simp only [plet_q] at f1 f2
          rw [show nI 0 = (0 : Int32) from rfl] at f1 f2
          exact ⟨s2, r2, t2, p', f1, f2, f3⟩
        · rw [if_neg z4, if_neg z4]
          obtain ⟨s2, r2, t2, p', f1, f2, f3⟩ := pers_end C A2 q k1 (y := -9) ⟨fun w => absurd w (by omega), fun _ => rfl⟩
          unfold kXp at f1
          unfold kMp at f2
          simp only [plet_q] at f1 f2
          rw [show nI 0 = (0 : Int32) from rfl] at f1 f2
          refine ⟨s2, r2, t2, p', f1, f2, ?_⟩
          rcases f3 with ⟨g1, g2, g3⟩ | g
          · exact Or.inl ⟨g1, by omega, g3⟩
          · exact Or.inr g
    · have D := RA_dead A1
      rw [k2, obind_some, if_pos rfl, house_no C A1 k1, pbind_some, if_neg (by rw [D.2.2.2]; decide), show FU = 999 + 1 from rfl, dpers D.2.2.2, if_neg (by rw [D.2.2.2]; decide)]
      exact ⟨_, 0, _, p + 1, rfl, rfl, Or.inr ⟨rfl, D⟩⟩
  · have e6 : np = 6 := by omega
    rw [e6, if_neg (show ¬ nI 6 < (6 : Int32) by decide), if_pos (show nI 6 = (6 : Int32) by decide)]
    exact ⟨_, 0, _, p, rfl, rfl, Or.inr ⟨rfl, RA_dead A⟩⟩
theorem add_debt (C : HC σ0 τ0 k n) {σ τ : pS} {p : Nat} (A : RA σ0 τ0 k n σ τ p np nd) (hn : nd < 8) {x y v i : Nat} (hx : x < np) (hy : y < np) (hxy : x ≠ y) (hv : 1 ≤ v) (hv2 : v ≤ 99) (hi : i ≤ 9) (h16 : pI τ 0 16 = nI i) : ∃ σ1 τ1, fX3_addDebt σ (pR σ 1 4) (nI x) (nI y) (nI v) (nI i) = some ((), σ1) ∧ (plet ((5 : Int32) * (pI τ 0 18)) fun x23 => if pin x23 40 then plet (sI τ 10 (x23).toNatClampNeg (nI x)) fun σ24 => if pin (x23 + (1 : Int32)) 40 then plet (sI σ24 10 ((x23 + (1 : Int32))).toNatClampNeg (nI y)) fun σ25 => if pin (x23 + (2 : Int32)) 40 then plet (sI σ25 10 ((x23 + (2 : Int32))).toNatClampNeg (nI v)) fun σ26 => if pin (x23 + (3 : Int32)) 40 then plet (sI σ26 10 ((x23 + (3 : Int32))).toNatClampNeg (pI σ26 0 16)) fun σ27 => if pin (x23 + (4 : Int32)) 40 then plet (sI σ27 10 ((x23 + (4 : Int32))).toNatClampNeg (-9 : Int32)) fun σ28 => plet (sI σ28 0 18 ((pI σ28 0 18) + (1 : Int32))) fun σ29 => some ((1 : Int32), σ29) else none else none else none else none else none) = some (1, τ1) ∧ RA σ0 τ0 k n σ1 τ1 p np (nd + 1) := by
  have w46 := vs46 C.2.2.2.2
  have ew : pR σ 1 4 = vs σ0 := A.1.2.2.1 1 4 (by decide)
  obtain ⟨a1, a2, ⟨b1, b2, b3⟩, a4, ⟨v1, v2⟩, ⟨v3, v4, v5⟩, ⟨v6, v7⟩, v8, v9⟩ := A
  have e5 : (5 : Int32) * nI nd = nI (5 * nd) := by rw [show (5 : Int32) = nI 5 from rfl, pk_mul]
  refine ⟨sI (sI (sI (sI (sI σ (vs σ0 + 5) nd (nI x)) (vs σ0 + 6) nd (nI y)) (vs σ0 + 7) nd (nI v)) (vs σ0 + 8) nd (nI i)) (vs σ0) 1 (nI (nd + 1)), sI (sI (sI (sI (sI (sI τ 10 (5 * nd) (nI x)) 10 (5 * nd + 1) (nI y)) 10 (5 * nd + 2) (nI v)) 10 (5 * nd + 3) (nI i)) 10 (5 * nd + 4) (-9)) 0 18 (nI (nd + 1)), ?_, ?_, ?_⟩
  · unfold fX3_addDebt
    simp only [plet_eq, ew]
    rw [C.2.2.2.2, if_pos rfl]
    simp only [pI_sI_ne (show vs σ0 ≠ vs σ0 + 5 by omega), pI_sI_ne (show vs σ0 ≠ vs σ0 + 6 by omega), pI_sI_ne (show vs σ0 ≠ vs σ0 + 7 by omega), pI_sI_ne (show vs σ0 ≠ vs σ0 + 8 by omega), v4, pin_lit hn (show 8 ≤ 2 ^ 31 by decide), nI_clamp (show nd < 2 ^ 31 by omega), if_true, nI_1]
    rw [if_neg (show ¬ (8 : Int32) ≤ nI nd from nI_nge (b := 8) hn (by decide))]
  · rw [v7, e5]
    simp only [plet_eq, show (1 : Int32) = nI 1 from rfl, show (2 : Int32) = nI 2 from rfl, show (3 : Int32) = nI 3 from rfl, show (4 : Int32) = nI 4 from rfl, nI_add, pin_lit (show 5 * nd < 40 by omega) (show 40 ≤ 2 ^ 31 by decide), pin_lit (show 5 * nd + 1 < 40 by omega) (show 40 ≤ 2 ^ 31 by decide), pin_lit (show 5 * nd + 2 < 40 by omega) (show 40 ≤ 2 ^ 31 by decide), pin_lit (show 5 * nd + 3 < 40 by omega) (show 40 ≤ 2 ^ 31 by decide), pin_lit (show 5 * nd + 4 < 40 by omega) (show 40 ≤ 2 ^ 31 by decide), if_true, nI_clamp (show 5 * nd < 2 ^ 31 by omega), nI_clamp (show 5 * nd + 1 < 2 ^ 31 by omega), nI_clamp (show 5 * nd + 2 < 2 ^ 31 by omega), nI_clamp (show 5 * nd + 3 < 2 ^ 31 by omega), nI_clamp (show 5 * nd + 4 < 2 ^ 31 by omega), pI_sI_ne (show 0 ≠ 10 by decide), v7, h16]
  · refine ⟨⟨fun e j q1 q2 => ?_, a1.2.1, a1.2.2.1, a1.2.2.2.1, ?_⟩, ⟨fun e j q1 q2 q3 => ?_, a2.2⟩, ⟨b1, ?_, ?_⟩, ?_, ⟨v1, by omega⟩, ⟨?_, pI_sI_eq, ?_⟩, ⟨?_, pI_sI_eq⟩, fun q hq => ?_, fun d hd => ?_⟩
    · rw [pI_sI_ne (by omega), pI_sI_ne (by omega), pI_sI_ne (by omega), pI_sI_ne (by omega), pI_sI_ne (by omega)]; exact a1.1 e j q1 q2
    · rw [pI_sI_ne (by omega), pI_sI_ne (by omega), pI_sI_ne (by omega), pI_sI_ne (by omega), pI_sI_ne (by omega)]; exact a1.2.2.2.2
    · rw [pI_sI, if_neg (fun z => q3 (by omega)), pI_sI_ne q2, pI_sI_ne q2, pI_sI_ne q2, pI_sI_ne q2, pI_sI_ne q2]; exact a2.1 e j q1 q2 q3
    · rw [pI_sI_ne (by omega), pI_sI_ne (by omega), pI_sI_ne (by omega), pI_sI_ne (by omega), pI_sI_ne (by omega)]; exact b2
    · rw [pI_sI_nj (by decide), pI_sI_ne (by decide), pI_sI_ne (by decide), pI_sI_ne (by decide), pI_sI_ne (by decide), pI_sI_ne (by decide)]; exact b3
    · rw [pI_sI_ne (by omega), pI_sI_ne (by omega), pI_sI_ne (by omega), pI_sI_ne (by omega), pI_sI_ne (by omega)]; exact a4
    · rw [pI_sI_nj (by decide), pI_sI_ne (by omega), pI_sI_ne (by omega), pI_sI_ne (by omega), pI_sI_ne (by omega)]; exact v3
    · rw [pI_sI_nj (by decide), pI_sI_ne (by omega), pI_sI_ne (by omega), pI_sI_ne (by omega), pI_sI_ne (by omega)]; exact v5
    · rw [pI_sI_nj (by decide), pI_sI_ne (by decide), pI_sI_ne (by decide), pI_sI_ne (by decide), pI_sI_ne (by decide), pI_sI_ne (by decide)]; exact v6
    · have := v8 q hq
      unfold VP at this ⊢
      have keepM : ∀ j, pI (sI (sI (sI (sI (sI (sI τ 10 (5 * nd) (nI x)) 10 (5 * nd + 1) (nI y)) 10 (5 * nd + 2) (nI v)) 10 (5 * nd + 3) (nI i)) 10 (5 * nd + 4) (-9)) 0 18 (nI (nd + 1))) 9 j = pI τ 9 j := fun j => by rw [pI_sI_ne (by decide), pI_sI_ne (by decide), pI_sI_ne (by decide), pI_sI_ne (by decide), pI_sI_ne (by decide), pI_sI_ne (by decide)]
      have keepX : ∀ j, 0 < j → j < 5 → pI (sI (sI (sI (sI (sI σ (vs σ0 + 5) nd (nI x)) (vs σ0 + 6) nd (nI y)) (vs σ0 + 7) nd (nI v)) (vs σ0 + 8) nd (nI i)) (vs σ0) 1 (nI (nd + 1))) (vs σ0 + j) q = pI σ (vs σ0 + j) q := fun j h5 h9 => by rw [pI_sI_ne (by omega), pI_sI_ne (by omega), pI_sI_ne (by omega), pI_sI_ne (by omega), pI_sI_ne (by omega)]
      simp only [keepM]
      rw [keepX 1 (by decide) (by decide), keepX 2 (by decide) (by decide), keepX 3 (by decide) (by decide), keepX 4 (by decide) (by decide)]
      exact this
    · unfold VD
      by_cases z : d = nd
      · subst z
        have g0 : pI (sI (sI (sI (sI (sI (sI τ 10 (5 * d) (nI x)) 10 (5 * d + 1) (nI y)) 10 (5 * d + 2) (nI v)) 10 (5 * d + 3) (nI i)) 10 (5 * d + 4) (-9)) 0 18 (nI (d + 1))) 10 (5 * d) = nI x := by rw [pI_sI_ne (by decide), pI_sI_nj (by omega), pI_sI_nj (by omega), pI_sI_nj (by omega), pI_sI_nj (by omega), pI_sI_eq]
        have g1 : pI (sI (sI (sI (sI (sI (sI τ 10 (5 * d) (nI x)) 10 (5 * d + 1) (nI y)) 10 (5 * d + 2) (nI v)) 10 (5 * d + 3) (nI i)) 10 (5 * d + 4) (-9)) 0 18 (nI (d + 1))) 10 (5 * d + 1) = nI y := by rw [pI_sI_ne (by decide), pI_sI_nj (by omega), pI_sI_nj (by omega), pI_sI_nj (by omega), pI_sI_eq]
        have g2 : pI (sI (sI (sI (sI (sI (sI τ 10 (5 * d) (nI x)) 10 (5 * d + 1) (nI y)) 10 (5 * d + 2) (nI v)) 10 (5 * d + 3) (nI i)) 10 (5 * d + 4) (-9)) 0 18 (nI (d + 1))) 10 (5 * d + 2) = nI v := by rw [pI_sI_ne (by decide), pI_sI_nj (by omega), pI_sI_nj (by omega), pI_sI_eq]
        have g3 : pI (sI (sI (sI (sI (sI (sI τ 10 (5 * d) (nI x)) 10 (5 * d + 1) (nI y)) 10 (5 * d + 2) (nI v)) 10 (5 * d + 3) (nI i)) 10 (5 * d + 4) (-9)) 0 18 (nI (d + 1))) 10 (5 * d + 3) = nI i := by rw [pI_sI_ne (by decide), pI_sI_nj (by omega), pI_sI_eq]
        have g4 : pI (sI (sI (sI (sI (sI (sI τ 10 (5 * d) (nI x)) 10 (5 * d + 1) (nI y)) 10 (5 * d + 2) (nI v)) 10 (5 * d + 3) (nI i)) 10 (5 * d + 4) (-9)) 0 18 (nI (d + 1))) 10 (5 * d + 4) = -9 := by rw [pI_sI_ne (by decide), pI_sI_eq]
        rw [g0, g1, g2, g3, g4]
        refine ⟨⟨?_, ?_, ?_, ?_, rfl⟩, x, y, v, i, hx, hy, hxy, hv, hv2, hi, rfl, rfl, rfl, rfl⟩
        · rw [pI_sI_ne (by omega), pI_sI_ne (by omega), pI_sI_ne (by omega), pI_sI_ne (by omega), pI_sI_eq]
        · rw [pI_sI_ne (by omega), pI_sI_ne (by omega), pI_sI_ne (by omega), pI_sI_eq]
        · rw [pI_sI_ne (by omega), pI_sI_ne (by omega), pI_sI_eq]
        · rw [pI_sI_ne (by omega), pI_sI_eq]
      · have keepM : ∀ j, j < 5 → pI (sI (sI (sI (sI (sI (sI τ 10 (5 * nd) (nI x)) 10 (5 * nd + 1) (nI y)) 10 (5 * nd + 2) (nI v)) 10 (5 * nd + 3) (nI i)) 10 (5 * nd + 4) (-9)) 0 18 (nI (nd + 1))) 10 (5 * d + j) = pI τ 10 (5 * d + j) := fun j hj => by rw [pI_sI_ne (by decide), pI_sI_nj (by omega), pI_sI_nj (by omega), pI_sI_nj (by omega), pI_sI_nj (by omega), pI_sI_nj (by omega)]
        have k0 := keepM 0 (by decide)
        simp only [Nat.add_zero] at k0
        have keepX : ∀ j, 0 < j → j < 9 → pI (sI (sI (sI (sI (sI σ (vs σ0 + 5) nd (nI x)) (vs σ0 + 6) nd (nI y)) (vs σ0 + 7) nd (nI v)) (vs σ0 + 8) nd (nI i)) (vs σ0) 1 (nI (nd + 1))) (vs σ0 + j) d = pI σ (vs σ0 + j) d := fun j h5 h9 => by rw [pI_sI_ne (by omega), pI_sI_nj z, pI_sI_nj z, pI_sI_nj z, pI_sI_nj z]
        rw [k0, keepM 1 (by decide), keepM 2 (by decide), keepM 3 (by decide), keepM 4 (by decide), keepX 5 (by decide) (by decide), keepX 6 (by decide) (by decide), keepX 7 (by decide) (by decide), keepX 8 (by decide) (by decide)]
        exact v9 d (by omega)
theorem rdebt (C : HC σ0 τ0 k n) {σ τ : pS} {p : Nat} (A : RA σ0 τ0 k n σ τ p np nd) (h100 : TX τ0 k n p = 100) : ∃ σ1 r τ1 p', fX1_readDebt σ = some ((), σ1) ∧ fX5_readsDebt τ (nI k) = some (r, τ1) ∧ ((r = 1 ∧ p < p' ∧ RA σ0 τ0 k n σ1 τ1 p' np (nd + 1)) ∨ (r = 0 ∧ RZ σ0 τ0 k n σ1 τ1 p')) := by
  have hp := TX_lt h100 (by decide)
  have ew : pR σ 1 4 = vs σ0 := A.1.2.2.1 1 4 (by decide)
  have n6 := A.2.2.2.2.1.1
  have n8 := A.2.2.2.2.1.2
  have A1 := RA_pl C A hp
  unfold fX1_readDebt fX5_readsDebt
  rw [ew, C.2.2.2.2, if_pos rfl, A.2.2.2.2.2.1.2.1, A.2.2.2.2.2.2.1.2]
  by_cases q : nd < 8
  · rw [if_pos (show nI nd < (8 : Int32) from nI_lt (b := 8) q (by decide)), if_neg (show ¬ nI nd = (8 : Int32) from fun z => by have := (nI_lit (w := nd) (n := 8) (by omega) (by decide) rfl).mp z; omega), A.2.2.1.2.1, A.2.2.1.2.2, nI_1, plet_eq, plet_eq]
    obtain ⟨x1, s1, r1, t1, e1, e2, e3⟩ := rlet C A1 (u := -9) (m := -1) (fun v hv => ⟨fun y => absurd y (nI_ne_m9 (by omega)), fun y => absurd y (nI_ne_m1 (by omega))⟩)
    rw [e1, e2, pbind_some, pbind_some]
    rcases e3 with ⟨rfl, x, xl, rfl, xt, -, A2⟩ | ⟨rfl, Z⟩
    · rw [if_neg i10, xt, plet_eq]
      obtain ⟨x2, s2, r2, t2, f1, f2, f3⟩ := rlet C A2 (u := nI x) (m := nI x) (fun v hv => Iff.rfl)
      rw [f1, f2, pbind_some, pbind_some]
      rcases f3 with ⟨rfl, y, yl, rfl, yt, yx, A3⟩ | ⟨rfl, Z⟩
      · rw [if_neg i10, yt, plet_eq]
        obtain ⟨s3, r3, t3, g1, g2, g3⟩ := rsign C A3 (c := 58) (by decide)
        rw [g1, g2, pbind_some, pbind_some]
        rcases g3 with ⟨rfl, A4⟩ | ⟨rfl, Z⟩
        · rw [if_neg i10]
          obtain ⟨x4, s4, r4, t4, p4, h1, h2, h3⟩ := rnum C A4 (lo := 1) (hi := 99) (by decide) (by decide)
          rw [show fX1_readNumber s3 (1 : Int32) (99 : Int32) = some (x4, s4) from h1, show fX5_number t3 (nI k) (1 : Int32) (99 : Int32) = some (r4, t4) from h2, pbind_some, pbind_some]
          rcases h3 with ⟨rfl, hp4, v, v1, v2, rfl, vt, A5⟩ | ⟨rfl, Z⟩
          · rw [if_neg i10, vt, plet_eq]
            obtain ⟨s5, r5, t5, i1, i2, i3⟩ := rsign C A5 (c := 58) (by decide)
            rw [i1, i2, pbind_some, pbind_some]
            rcases i3 with ⟨rfl, A6⟩ | ⟨rfl, Z⟩
            · rw [if_neg i10]
              obtain ⟨x6, s6, r6, t6, j1, j2, j3⟩ := rfig C A6
              rw [j1, j2, pbind_some, pbind_some]
              rcases j3 with ⟨rfl, d, dl, rfl, dt, A7⟩ | ⟨rfl, Z⟩
              · rw [if_neg i10, if_pos A7.2.2.2.1]
                have ew7 : pR s6 1 4 = vs σ0 := A7.1.2.2.1 1 4 (by decide)
                have hxy : x ≠ y := fun z => yx (by rw [z])
                obtain ⟨s8, t8, l1, l2, l3⟩ := add_debt C A7 q xl yl hxy v1 v2 dl dt
                refine ⟨s8, 1, t8, p4 + 1 + 1, ?_, l2, Or.inl ⟨rfl, by omega, l3⟩⟩
                rw [show isV (pR s6 1 4) = true by rw [ew7]; exact C.2.2.2.2, if_pos rfl, l1]
                rfl
              · rw [if_pos rfl, if_neg (by rw [Z.2.2.2]; decide)]
                exact ⟨_, 0, _, _, rfl, rfl, Or.inr ⟨rfl, Z⟩⟩
            · rw [if_pos rfl, dfig Z.2.2.2, pbind_some, if_neg (by rw [Z.2.2.2]; decide)]
              exact ⟨_, 0, _, _, rfl, rfl, Or.inr ⟨rfl, Z⟩⟩
          · rw [if_pos rfl, dsign Z.2.2.2, pbind_some, dfig Z.2.2.2, pbind_some, if_neg (by rw [Z.2.2.2]; decide)]
            exact ⟨_, 0, _, _, rfl, rfl, Or.inr ⟨rfl, Z⟩⟩
        · rw [if_pos rfl, dnum Z.2.2.2, pbind_some, dsign Z.2.2.2, pbind_some, dfig Z.2.2.2, pbind_some, if_neg (by rw [Z.2.2.2]; decide)]
          exact ⟨_, 0, _, _, rfl, rfl, Or.inr ⟨rfl, Z⟩⟩
      · rw [if_pos rfl, dsign Z.2.2.2, pbind_some, dnum Z.2.2.2, pbind_some, dsign Z.2.2.2, pbind_some, dfig Z.2.2.2, pbind_some, if_neg (by rw [Z.2.2.2]; decide)]
        exact ⟨_, 0, _, _, rfl, rfl, Or.inr ⟨rfl, Z⟩⟩
    · rw [if_pos rfl, dlet Z.2.2.2, pbind_some, dsign Z.2.2.2, pbind_some, dnum Z.2.2.2, pbind_some, dsign Z.2.2.2, pbind_some, dfig Z.2.2.2, pbind_some, if_neg (by rw [Z.2.2.2]; decide)]
      exact ⟨_, 0, _, _, rfl, rfl, Or.inr ⟨rfl, Z⟩⟩
  · have e8 : nd = 8 := by omega
    rw [e8, if_neg (show ¬ nI 8 < (8 : Int32) by decide), if_pos (show nI 8 = (8 : Int32) by decide)]
    exact ⟨_, 0, _, p, rfl, rfl, Or.inr ⟨rfl, RA_dead A⟩⟩
theorem dread {σ : pS} (h : pI σ 1 3 = 1) (kX : pS → Option (Int32 × pS)) (y : Int32) (F : Nat) : lX1_read_34 kX (F + 1) y σ = kX σ := by
  rw [lX1_read_34.eq_2]
  split
  · rfl
  · split
    · rfl
    · rw [if_neg (by rw [h]; decide)]
theorem rloop (C : HC σ0 τ0 k n) (kX kM : pS → Option (Int32 × pS)) : ∀ q F G turn σ τ p np nd, RA σ0 τ0 k n σ τ p np nd → n - p ≤ q → q + 1 < F → q + 1 < G → turn ≤ p → (∃ σ1 τ1 np' nd', lX1_read_34 kX F (nI turn) σ = kX σ1 ∧ lX5_faultOf_15 (nI k) kM G τ = kM τ1 ∧ RA σ0 τ0 k n σ1 τ1 n np' nd') ∨ (∃ σ1 τ1 p', lX1_read_34 kX F (nI turn) σ = kX σ1 ∧ lX5_faultOf_15 (nI k) kM G τ = some (nI p', τ1) ∧ RZ σ0 τ0 k n σ1 τ1 p') := by
  have c1 := C.1
  have c2 := C.2.1
  have size : ∀ {σ τ p np nd}, RA σ0 τ0 k n σ τ p np nd → pI τ 5 k = nI n := fun A => by rw [A.2.1.1 5 k (by decide) (by decide) (by omega)]; exact C.2.2.1
  intro q
  induction q with
  | zero =>
    intro F G turn σ τ p np nd A h1 h2 h3 h4
    obtain ⟨F, rfl⟩ : ∃ F', F = F' + 1 := ⟨F - 1, by omega⟩
    obtain ⟨G, rfl⟩ : ∃ F', G = F' + 1 := ⟨G - 1, by omega⟩
    have pn : p = n := by have := A.2.2.1.1; omega
    left
    refine ⟨σ, τ, np, nd, ?_, ?_, by rw [← pn]; rw [← pn] at A; exact A⟩
    · rw [lX1_read_34.eq_2, A.1.2.2.2.2, A.2.2.1.2.1]
      split
      · rfl
      · rw [if_pos (nI_le (by omega) (by omega))]
    · rw [lX5_faultOf_15.eq_2, pin_lit c1 (by decide), if_pos rfl, nI_clamp (show k < 2 ^ 31 by omega), size A, A.2.2.1.2.2, if_pos (nI_le (by omega) (by omega))]
  | succ q ih =>
    intro F G turn σ τ p np nd A h1 h2 h3 h4
    obtain ⟨F, rfl⟩ : ∃ F', F = F' + 2 := ⟨F - 2, by omega⟩
    obtain ⟨G, rfl⟩ : ∃ F', G = F' + 1 := ⟨G - 1, by omega⟩
    by_cases hp : p < n
    · have M : lX5_faultOf_15 (nI k) kM (G + 1) τ = if TX τ0 k n p = (32 : Int32) then lX5_faultOf_15 (nI k) kM G (sI τ 0 15 (nI (p + 1))) else if TX τ0 k n p = (112 : Int32) then (pbind (fX5_readsOne τ (nI k)) fun r10 σ11 => if r10 = 0 then some ((pI σ11 0 15), σ11) else lX5_faultOf_15 (nI k) kM G σ11) else if TX τ0 k n p = (100 : Int32) then (pbind (fX5_readsDebt τ (nI k)) fun r7 σ8 => if r7 = 0 then some ((pI σ8 0 15), σ8) else lX5_faultOf_15 (nI k) kM G σ8) else some (nI p, τ) := by
        rw [lX5_faultOf_15.eq_2, pin_lit c1 (by decide), if_pos rfl, nI_clamp (show k < 2 ^ 31 by omega), size A, byte_eq C A, A.2.2.1.2.2, if_neg (nI_nge hp (by omega)), obind_some, plet_eq, nI_1]
      have X : lX1_read_34 kX (F + 2) (nI turn) σ = if TX τ0 k n p = (32 : Int32) then lX1_read_34 kX (F + 1) (nI (turn + 1)) (sI σ 1 2 (nI (p + 1))) else if TX τ0 k n p = (112 : Int32) then (pbind (fX1_readPerson σ) fun _ σ26 => lX1_read_34 kX (F + 1) (nI (turn + 1)) σ26) else if TX τ0 k n p = (100 : Int32) then (pbind (fX1_readDebt σ) fun _ σ23 => lX1_read_34 kX (F + 1) (nI (turn + 1)) σ23) else lX1_read_34 kX (F + 1) (nI (turn + 1)) (sI σ 1 3 1) := by
        rw [lX1_read_34.eq_2, A.1.2.2.2.2, A.2.2.1.2.1, if_neg (nI_nge (by omega) (by omega)), if_neg (nI_nge hp (by omega)), if_pos A.2.2.2.1, next_eq C A (c := 32) (by decide), next_eq C A (c := 112) (by decide), next_eq C A (c := 100) (by decide)]
        simp only [obind_some, plet_eq, nI_1, b2i_0, decide_eq_false_iff_not]
        by_cases z1 : TX τ0 k n p = 32
        · rw [if_neg (fun y => y z1), if_pos z1]
        · rw [if_pos z1, if_neg z1]
          by_cases z2 : TX τ0 k n p = 112
          · rw [if_neg (fun y => y z2), if_pos z2]
          · rw [if_pos z2, if_neg z2]
            by_cases z3 : TX τ0 k n p = 100
            · rw [if_neg (fun y => y z3), if_pos z3]
            · rw [if_pos z3, if_neg z3]
      rw [X, M]
      by_cases z1 : TX τ0 k n p = 32
      · rw [if_pos z1, if_pos z1]
        exact ih (F + 1) G (turn + 1) _ _ (p + 1) np nd (RA_pl C A hp) (by omega) (by omega) (by omega) (by omega)
      · rw [if_neg z1, if_neg z1]
        by_cases z2 : TX τ0 k n p = 112
        · rw [if_pos z2, if_pos z2]
          obtain ⟨s1, r1, t1, p', e1, e2, e3⟩ := rperson C A z2
          rw [e1, e2, pbind_some, pbind_some]
          rcases e3 with ⟨rfl, pp, B⟩ | ⟨rfl, Z⟩
          · rw [if_neg i10]
            exact ih (F + 1) G (turn + 1) _ _ p' (np + 1) nd B (by omega) (by omega) (by omega) (by omega)
          · rw [if_pos rfl, dread Z.2.2.2]
            exact Or.inr ⟨s1, t1, p', rfl, by rw [Z.2.2.1.2.2], Z⟩
        · rw [if_neg z2, if_neg z2]
          by_cases z3 : TX τ0 k n p = 100
          · rw [if_pos z3, if_pos z3]
            obtain ⟨s1, r1, t1, p', e1, e2, e3⟩ := rdebt C A z3
            rw [e1, e2, pbind_some, pbind_some]
            rcases e3 with ⟨rfl, pp, B⟩ | ⟨rfl, Z⟩
            · rw [if_neg i10]
              exact ih (F + 1) G (turn + 1) _ _ p' np (nd + 1) B (by omega) (by omega) (by omega) (by omega)
            · rw [if_pos rfl, dread Z.2.2.2]
              exact Or.inr ⟨s1, t1, p', rfl, by rw [Z.2.2.1.2.2], Z⟩
          · rw [if_neg z3, if_neg z3, dread (RA_dead A).2.2.2]
            exact Or.inr ⟨_, τ, p, rfl, rfl, RA_dead A⟩
    · have pn : p = n := by have := A.2.2.1.1; omega
      left
      refine ⟨σ, τ, np, nd, ?_, ?_, by rw [← pn]; rw [← pn] at A; exact A⟩
      · rw [lX1_read_34.eq_2, A.1.2.2.2.2, A.2.2.1.2.1]
        split
        · rfl
        · rw [if_pos (nI_le (by omega) (by omega))]
      · rw [lX5_faultOf_15.eq_2, pin_lit c1 (by decide), if_pos rfl, nI_clamp (show k < 2 ^ 31 by omega), size A, A.2.2.1.2.2, if_pos (nI_le (by omega) (by omega))]
end
theorem read_both {σ τ : pS} (h : RR σ τ) {k n : Nat} (hk : k < 4) (hn : n ≤ 120) (e5 : pI τ 5 k = nI n) (e6 : ∀ i, i < n → pI σ (26 + k) i = pI τ 6 (120 * k + i)) : ∃ r σ1 τ1, fX1_read σ (26 + k) (nI n) = some (r, σ1) ∧ fX5_faultOf τ (nI k) = some (r, τ1) ∧ ((r = -9 ∧ ∃ np nd, RA σ τ k n σ1 τ1 n np nd) ∨ (∃ p, p ≤ n ∧ r = nI p ∧ RZ σ τ k n σ1 τ1 p)) := by
  have C : HC σ τ k n := ⟨hk, hn, e5, e6, h.2.2.2.1.2.1⟩
  have w46 := vs46 C.2.2.2.2
  obtain ⟨ta, tb⟩ := text_isA k hk
  unfold fX1_read fX5_faultOf
  simp only [plet_eq]
  rw [ta, if_pos rfl, tb, if_neg (show ¬ Int32.ofNat 120 < nI n from nI_nlt (a := 120) (b := n) hn (by decide))]
  have ew : pR (sI (sI (sI (sR σ 1 0 (26 + k)) 1 1 (nI n)) 1 2 0) 1 3 0) 1 4 = vs σ := by
    rw [pR_sI, pR_sI, pR_sI, pR_sR, if_neg (by omega)]
    rfl
  rw [ew, C.2.2.2.2, if_pos rfl]
  have clr : fX3_clear (sI (sI (sI (sR σ 1 0 (26 + k)) 1 1 (nI n)) 1 2 0) 1 3 0) (vs σ) = some ((), sI (sI (sI (sI (sI (sI (sR σ 1 0 (26 + k)) 1 1 (nI n)) 1 2 0) 1 3 0) (vs σ) 0 0) (vs σ) 1 0) (vs σ) 2 0) := by
    unfold fX3_clear
    rw [C.2.2.2.2]
    rfl
  rw [clr, pbind_some]
  have A : RA σ τ k n (sI (sI (sI (sI (sI (sI (sR σ 1 0 (26 + k)) 1 1 (nI n)) 1 2 0) 1 3 0) (vs σ) 0 0) (vs σ) 1 0) (vs σ) 2 0) (sI (sI (sI τ 0 15 0) 0 17 0) 0 18 0) 0 0 0 := by
    refine ⟨⟨fun e i q1 q2 => ?_, fun e i => rfl, fun e i q => ?_, ?_, ?_⟩, ⟨fun e i q1 q2 q3 => ?_, fun e i => rfl⟩, ⟨Nat.zero_le _, ?_, ?_⟩, ?_, ⟨Nat.zero_le _, Nat.zero_le _⟩, ⟨?_, ?_, ?_⟩, ⟨?_, ?_⟩, fun q hq => absurd hq (Nat.not_lt_zero q), fun q hq => absurd hq (Nat.not_lt_zero q)⟩
    · rw [pI_sI_ne (by omega), pI_sI_ne (by omega), pI_sI_ne (by omega), pI_sI_ne q1, pI_sI_ne q1, pI_sI_ne q1, pI_sR]
    · rw [pR_sI, pR_sI, pR_sI, pR_sI, pR_sI, pR_sI, pR_sR, if_neg q]
    · rw [pR_sI, pR_sI, pR_sI, pR_sI, pR_sI, pR_sI, pR_sR, if_pos ⟨rfl, rfl⟩]
    · rw [pI_sI_ne (by omega), pI_sI_ne (by omega), pI_sI_ne (by omega), pI_sI_nj (by decide), pI_sI_nj (by decide), pI_sI_eq]
    · rw [pI_sI, if_neg (fun z => q3 (by omega)), pI_sI, if_neg (fun z => q3 (by omega)), pI_sI, if_neg (fun z => q3 (by omega))]
    · rw [pI_sI_ne (by omega), pI_sI_ne (by omega), pI_sI_ne (by omega), pI_sI_nj (by decide), pI_sI_eq]; rfl
    · rw [pI_sI_nj (by decide), pI_sI_nj (by decide), pI_sI_eq]; rfl
    · rw [pI_sI_ne (by omega), pI_sI_ne (by omega), pI_sI_ne (by omega), pI_sI_eq]
    · rw [pI_sI_nj (by decide), pI_sI_nj (by decide), pI_sI_eq]; rfl
    · rw [pI_sI_nj (by decide), pI_sI_eq]; rfl
    · rw [pI_sI_eq]
    · rw [pI_sI_nj (by decide), pI_sI_eq]; rfl
    · rw [pI_sI_eq]; rfl
  rcases rloop C (fun (σ28 : pS) => if (pI σ28 1 3) = 0 then some ((-9 : Int32), σ28) else some ((pI σ28 1 2), σ28)) (fun (σ13 : pS) => some ((-9 : Int32), σ13)) n FU FU 0 _ _ 0 0 0 A (by omega) (by simp [FU]; omega) (by simp [FU]; omega) (Nat.le_refl _) with ⟨s1, t1, np, nd, e1, e2, B⟩ | ⟨s1, t1, p, e1, e2, Z⟩
  · exact ⟨-9, s1, t1, e1.trans (if_pos B.2.2.2.1), e2, Or.inl ⟨rfl, np, nd, B⟩⟩
  · exact ⟨nI p, s1, t1, e1.trans ((if_neg (by rw [Z.2.2.2]; decide)).trans (by rw [Z.2.2.1.2.1])), e2, Or.inr ⟨p, Z.2.2.1.1, rfl, Z⟩⟩
theorem two_vil {σ τ : pS} (h : RR σ τ) : (vl σ = 46 ∧ vs σ = 55) ∨ (vl σ = 55 ∧ vs σ = 46) := by
  have h1 := isV_or h.2.2.2.1.1
  have h2 := isV_or h.2.2.2.1.2.1
  have h3 := h.2.2.2.1.2.2.1
  omega
theorem FrX_FX {σ τ σ1 : pS} (h : RR σ τ) {k n : Nat} (f : FrX σ σ1 k n) : FX σ σ1 := by
  have tv := two_vil h
  exact ⟨fun e i he => f.1 e i (by omega) (by omega), ⟨f.1 0 9 (by omega) (by omega), f.1 0 12 (by omega) (by omega)⟩, ⟨f.1 3 0 (by omega) (by omega), f.1 3 1 (by omega) (by omega)⟩, ⟨f.2.1 _ _, f.2.1 _ _⟩, f.2.2.1 0 8 (by omega), f.2.2.1 1 4 (by omega)⟩
theorem FrM_FM {τ τ1 : pS} (f : FrM τ τ1) : FM τ τ1 := ⟨fun e i q1 q2 q3 q4 q5 q6 q7 q8 => f.1 e i (by omega) (by omega) (by omega), fun i hi => f.1 0 i (by omega) (by omega) (by omega), f.2 0 3, f.2 0 4⟩
theorem o_fault : op_fault RR := by
  intro σ τ a h
  unfold fX4_fault fX5_fault
  rcases isText_cases a with ⟨h1, h2⟩ | ⟨k, hk, rfl, h1, h2⟩
  · exact ⟨-1, σ, τ, by rw [h1]; rfl, by rw [h2]; rfl, h⟩
  rw [h1, h2]
  simp only [obind_some, i10, if_false, pin_lit hk (show 4 ≤ 2 ^ 31 by decide), if_true, nI_clamp (show k < 2 ^ 31 by omega)]
  rcases h.2.2.1 k hk with ⟨e1, e2⟩ | ⟨s, hs, e1, e2, e3⟩
  · rw [e1, e2, if_pos rfl, if_neg nI_m1_nge, xf1, mf1]
    exact ⟨-3, _, _, rfl, rfl, RR_find h (by decide)⟩
  · rw [e1, e2, if_neg (nI_ne_m1 (by omega)), if_pos (nI_ge0 (by omega))]
    obtain ⟨r, σ1, τ1, g1, g2, g3⟩ := read_both h hk hs e2 e3
    rw [g1, g2]
    refine ⟨r, σ1, τ1, rfl, rfl, ?_⟩
    rcases g3 with ⟨-, np, nd, A⟩ | ⟨p, -, -, Z⟩
    · exact RR_F h (FrX_FX h A.1) (FrM_FM A.2.1)
    · exact RR_F h (FrX_FX h Z.1) (FrM_FM Z.2.1)
