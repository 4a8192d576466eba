/-! PURE: must, liars, family -/
def provB (τ : pS) (y p : Nat) : Bool := if wN τ = 3 then false else if kN τ y = 2 then false else if kN τ y = 4 then false else if y = p then true else decide (kN τ y = 3) && decide (mN τ y = p)
theorem provesOut_eq {σ τ : pS} (h : RR σ τ) {y p : Nat} (hy : y < tn τ) (hp : p < tn τ) : fX3_provesOut σ (pR σ 0 8) (nI y) (nI p) = some (b2i (provB τ y p)) := by
  have o1 := hN6 h
  have ho := h.2.2.2.2.1
  have w4 := (wN_ok ho).2
  obtain ⟨k1, k2, k3, -⟩ := kN_ok ho hy
  unfold fX3_provesOut provB
  rw [hV h, hW h, pin_lit (show y < 6 by omega) (by decide), nI_clamp (show y < 2 ^ 31 by omega), hK h hy, hM1 h hy]
  simp only [if_true, nI_lit (show wN τ < 2 ^ 31 by omega) (show 3 < 2 ^ 31 by decide) (show (3 : Int32) = nI 3 from rfl), nI_lit (show kN τ y < 2 ^ 31 by omega) (show 3 < 2 ^ 31 by decide) (show (3 : Int32) = nI 3 from rfl), nI_lit (show kN τ y < 2 ^ 31 by omega) (show 2 < 2 ^ 31 by decide) (show (2 : Int32) = nI 2 from rfl), nI_lit (show kN τ y < 2 ^ 31 by omega) (show 4 < 2 ^ 31 by decide) (show (4 : Int32) = nI 4 from rfl), nI_eq (show y < 2 ^ 31 by omega) (show p < 2 ^ 31 by omega)]
  by_cases q1 : wN τ = 3
  · rw [if_pos q1, if_pos q1]; rfl
  rw [if_neg q1, if_neg q1]
  by_cases q2 : kN τ y = 2
  · rw [if_pos q2, if_pos q2]; rfl
  rw [if_neg q2, if_neg q2]
  by_cases q3 : kN τ y = 4
  · rw [if_pos q3, if_pos q3]; rfl
  rw [if_neg q3, if_neg q3]
  by_cases q4 : y = p
  · rw [if_pos q4, if_pos q4]; rfl
  rw [if_neg q4, if_neg q4]
  by_cases q5 : kN τ y = 3
  · obtain ⟨m1, m2⟩ := k3 (Or.inl q5)
    rw [if_pos q5, m1, decide_eq_true q5]
    by_cases q6 : mN τ y = p
    · rw [if_pos (by rw [q6]), decide_eq_true q6]; rfl
    · rw [if_neg (fun z => q6 ((nI_eq (by omega) (by omega)).mp z)), decide_eq_false q6]; rfl
  · rw [if_neg q5, decide_eq_false q5]; rfl
def mustB (τ : pS) (p d : Nat) : Bool := decide (¬ pI τ 11 d = -9) && (decide (fN τ d = p) || provB τ (tN τ d) p)
def mustN (τ : pS) (p : Nat) : Nat → Nat
  | 0 => 0
  | n + 1 => mustN τ p n ||| (if mustB τ p n then 2 ^ hrN τ n else 0)
theorem mustN_lt {τ : pS} {p : Nat} : ∀ n, (∀ d, d < n → okH (pI τ 11 d)) → mustN τ p n < 4096
  | 0, _ => by simp [mustN]
  | n + 1, h => by
    unfold mustN
    refine Nat.or_lt_two_pow (n := 12) (mustN_lt n (fun d hd => h d (by omega))) ?_
    split
    · rename_i q
      have q9 : ¬ pI τ 11 n = -9 := by
        unfold mustB at q
        simp at q
        exact q.1
      exact pow_lt12 (hrN_ok (h n (by omega)) q9).2
    · decide
theorem xmust_eq {σ τ : pS} (h : RR σ τ) {r : Nat} (hr : r < 6) (hrow : ∀ d, d < td τ → pI σ (20 + r) d = pI τ 11 d ∧ okH (pI τ 11 d)) {p : Nat} (hp : p < tn τ) : fX4_mustBeOut σ (20 + r) (nI p) = some (nI (mustN τ p (td τ))) := by
  have o1 := hN6 h
  have o2 := hD8 h
  obtain ⟨r1, r2⟩ := row_isA r hr
  unfold fX4_mustBeOut
  refine whF (fun F (a : Int32) v => lX4_mustBeOut_5 σ (20 + r) (nI p) (fun y3 => some y3) F a v) (n := td τ) (by omega) (fun j => nI (mustN τ p j)) _ (fun F => ?_) (fun F j hj => ?_)
  · show lX4_mustBeOut_5 σ _ _ _ (F + 1) _ _ = _
    rw [lX4_mustBeOut_5.eq_2, hV h, hD h, if_pos rfl, if_pos (nI_le (Nat.le_refl _) (by omega))]
  · show lX4_mustBeOut_5 σ _ _ _ (F + 1) _ _ = lX4_mustBeOut_5 σ _ _ _ F (nI (mustN τ p j ||| (if mustB τ p j then 2 ^ hrN τ j else 0))) _
    obtain ⟨⟨a1, a2⟩, ⟨b1, b2⟩, -⟩ := dN_ok h.2.2.2.2.1 hj
    rw [lX4_mustBeOut_5.eq_2, hV h, hD h, if_pos rfl, if_neg (nI_nge (by omega) (by omega)), r1, r2, pin_lit (show j < 60 by omega) (by decide), pin_lit (show j < 8 by omega) (by decide), nI_clamp (show j < 2 ^ 31 by omega), (hrow j hj).1, hF0 h hj, hF1 h hj, provesOut_eq h b2 hp]
    simp only [if_true, plet_eq, obind_some, nI_1, b2i_0, nI_eq (show fN τ j < 2 ^ 31 by omega) (show p < 2 ^ 31 by omega)]
    unfold mustB
    by_cases q : pI τ 11 j = -9
    · rw [if_pos q, decide_eq_false (fun z => z q)]
      simp
    · obtain ⟨t1, t2⟩ := hrN_ok (hrow j hj).2 q
      rw [if_neg q, decide_eq_true q, t1, q_one (by omega), q_or]
      by_cases q2 : fN τ j = p
      · rw [if_pos q2, decide_eq_true q2]; rfl
      · rw [if_neg q2, decide_eq_false q2]
        cases provB τ (tN τ j) p
        · simp
        · simp
theorem mprov {τ : pS} (ho : Ro τ) {y : Nat} (hy : y < tn τ) {p x : Nat} (j11 : Int32 → Option Int32) : (if x = p then j11 1 else if (3 : Int32) ≤ nI (wN τ) then j11 0 else if (if y = p then (if kN τ y = 2 then (0 : Int32) else if kN τ y = 4 then 0 else 1) else 0) = 0 then (if (if kN τ y = 3 then (if mN τ y = p then (1 : Int32) else 0) else 0) = 0 then j11 0 else j11 1) else j11 1) = j11 (b2i (decide (x = p) || provB τ y p)) := by
  have k2 := (kN_ok ho hy).2.1
  have w4 := (wN_ok ho).2
  unfold provB
  by_cases q0 : x = p
  · rw [if_pos q0, decide_eq_true q0]; rfl
  rw [if_neg q0, decide_eq_false q0, Bool.false_or]
  by_cases q1 : wN τ = 3
  · rw [q1, if_pos (by decide), if_pos rfl]; rfl
  rw [if_neg (fun z => by
    have := (nI_leI (a := 3) (b := wN τ) (by decide) (by omega)).mp z
    omega), if_neg q1]
  by_cases q4 : y = p <;> by_cases q5 : mN τ y = p <;> rcases six k2 with e | e | e | e | e | e <;> simp [q4, q5, e, b2i] <;> simp_all
theorem mmust_eq {τ : pS} (ho : Ro τ) (hrow : ∀ d, d < td τ → okH (pI τ 11 d)) {p : Nat} (hp : p < tn τ) : fX5_mustOf τ (nI p) = some (nI (mustN τ p (td τ))) := by
  have o1 := ho.1
  have o2 := ho.2.1
  unfold fX5_mustOf
  refine whF (fun F (a : Int32) v => lX5_mustOf_4 τ (nI p) (fun y3 => some y3) F a v) (n := td τ) (by omega) (fun j => nI (mustN τ p j)) _ (fun F => ?_) (fun F j hj => ?_)
  · show lX5_mustOf_4 τ _ _ (F + 1) _ _ = _
    rw [lX5_mustOf_4.eq_2, ho.2.2.2.1, if_pos (nI_le (Nat.le_refl _) (by omega))]
  · show lX5_mustOf_4 τ _ _ (F + 1) _ _ = lX5_mustOf_4 τ _ _ F (nI (mustN τ p j ||| (if mustB τ p j then 2 ^ hrN τ j else 0))) _
    obtain ⟨⟨a1, a2⟩, ⟨b1, b2⟩, -⟩ := dN_ok ho hj
    obtain ⟨k1, k2, k3, -⟩ := kN_ok ho b2
    rw [lX5_mustOf_4.eq_2, ho.2.2.2.1, if_neg (nI_nge (by omega) (by omega)), pin_lit (show j < 8 by omega) (by decide), nI_clamp (show j < 2 ^ 31 by omega)]
    unfold mustB
    by_cases q : pI τ 11 j = -9
    · rw [if_pos rfl, if_pos q, decide_eq_false (fun z => z q), nI_1]
      simp
    · obtain ⟨t1, t2⟩ := hrN_ok (hrow j hj) q
      rw [if_pos rfl, if_neg q, decide_eq_true q, debt0 ho hj, debt1 ho hj, t1, q_one (by omega), (wN_ok ho).1]
      simp only [obind_some, plet_eq, kind_eq ho b2, with_eq ho b2, if_true, nI_1, Bool.true_and]
      have key := mprov ho b2 (p := p) (x := fN τ j) (fun y12 => if y12 = 0 then lX5_mustOf_4 τ (nI p) (fun y3 => some y3) F (nI (mustN τ p j) ||| 0) (nI (j + 1)) else lX5_mustOf_4 τ (nI p) (fun y3 => some y3) F (nI (mustN τ p j) ||| nI (2 ^ hrN τ j)) (nI (j + 1)))
      have fin : (if b2i (decide (fN τ j = p) || provB τ (tN τ j) p) = 0 then lX5_mustOf_4 τ (nI p) (fun y3 => some y3) F (nI (mustN τ p j) ||| 0) (nI (j + 1)) else lX5_mustOf_4 τ (nI p) (fun y3 => some y3) F (nI (mustN τ p j) ||| nI (2 ^ hrN τ j)) (nI (j + 1))) = lX5_mustOf_4 τ (nI p) (fun y3 => some y3) F (nI (mustN τ p j ||| (if (decide (fN τ j = p) || provB τ (tN τ j) p) = true then 2 ^ hrN τ j else 0))) (nI (j + 1)) := by
        cases (decide (fN τ j = p) || provB τ (tN τ j) p)
        · simp [b2i]
        · simp [b2i, q_or]
      rw [← fin, ← key]
      simp only [nI_eq (show tN τ j < 2 ^ 31 by omega) (show p < 2 ^ 31 by omega), nI_eq (show fN τ j < 2 ^ 31 by omega) (show p < 2 ^ 31 by omega), nI_lit (show kN τ (tN τ j) < 2 ^ 31 by omega) (show 3 < 2 ^ 31 by decide) (show (3 : Int32) = nI 3 from rfl), nI_lit (show kN τ (tN τ j) < 2 ^ 31 by omega) (show 2 < 2 ^ 31 by decide) (show (2 : Int32) = nI 2 from rfl), nI_lit (show kN τ (tN τ j) < 2 ^ 31 by omega) (show 4 < 2 ^ 31 by decide) (show (4 : Int32) = nI 4 from rfl)]
      by_cases z3 : kN τ (tN τ j) = 3
      · obtain ⟨m1, m2⟩ := k3 (Or.inl z3)
        rw [m1]
        simp only [nI_eq (show mN τ (tN τ j) < 2 ^ 31 by omega) (show p < 2 ^ 31 by omega)]
        by_cases z1 : tN τ j = p <;> by_cases z2 : fN τ j = p <;> by_cases z4 : mN τ (tN τ j) = p <;> simp [z1, z2, z3, z4] <;> simp_all
      · by_cases z1 : tN τ j = p <;> by_cases z2 : fN τ j = p <;> by_cases z4 : kN τ (tN τ j) = 2 <;> by_cases z5 : kN τ (tN τ j) = 4 <;> simp [z1, z2, z3, z4, z5] <;> simp_all
