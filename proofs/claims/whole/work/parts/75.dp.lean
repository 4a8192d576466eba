/-! PURE: sums; in how many ways; the form of a loss -/
def sumN (f : Nat → Nat) : Nat → Nat
  | 0 => 0
  | n + 1 => sumN f n + f n
theorem sumN_s (f : Nat → Nat) (n : Nat) : sumN f (n + 1) = sumN f n + f n := rfl
theorem sumN_congr {f g : Nat → Nat} : ∀ n, (∀ i, i < n → f i = g i) → sumN f n = sumN g n
  | 0, _ => rfl
  | n + 1, h => by rw [sumN_s, sumN_s, sumN_congr n (fun i hi => h i (by omega)), h n (by omega)]
theorem sumN_zero {f : Nat → Nat} : ∀ n, (∀ i, i < n → f i = 0) → sumN f n = 0
  | 0, _ => rfl
  | n + 1, h => by rw [sumN_s, sumN_zero n (fun i hi => h i (by omega)), h n (by omega)]
theorem sumN_le {f g : Nat → Nat} : ∀ n, (∀ i, i < n → f i ≤ g i) → sumN f n ≤ sumN g n
  | 0, _ => Nat.le_refl _
  | n + 1, h => by
    rw [sumN_s, sumN_s]
    have := sumN_le n (fun i hi => h i (by omega))
    have := h n (by omega)
    omega
theorem sumN_ge {f : Nat → Nat} {v : Nat} : ∀ n, v < n → f v ≤ sumN f n
  | 0, h => by omega
  | n + 1, h => by
    rw [sumN_s]
    by_cases e : v = n
    · subst e; omega
    · have := sumN_ge (f := f) n (show v < n by omega)
      omega
theorem sumN_tail {f : Nat → Nat} {n : Nat} : ∀ q, (∀ u, n ≤ u → u < n + q → f u = 0) → sumN f (n + q) = sumN f n
  | 0, _ => rfl
  | q + 1, h => by
    rw [← Nat.add_assoc, sumN_s, sumN_tail q (fun u h1 h2 => h u h1 (by omega)), h (n + q) (by omega) (by omega), Nat.add_zero]
theorem sumN_to {f : Nat → Nat} {n N : Nat} (hn : n ≤ N) (h : ∀ u, n ≤ u → u < N → f u = 0) : sumN f n = sumN f N := by
  have := sumN_tail (f := f) (n := n) (N - n) (fun u h1 h2 => h u h1 (by omega))
  rw [show n + (N - n) = N by omega] at this
  exact this.symm
theorem sumN_app (f : Nat → Nat) (a : Nat) : ∀ b, sumN f (a + b) = sumN f a + sumN (fun i => f (a + i)) b
  | 0 => rfl
  | b + 1 => by
    rw [← Nat.add_assoc, sumN_s, sumN_s, sumN_app f a b]
    omega
theorem sumN_mul (f : Nat → Nat) (k : Nat) : ∀ n, sumN (fun i => f i * k) n = sumN f n * k
  | 0 => by simp [sumN]
  | n + 1 => by rw [sumN_s, sumN_s, sumN_mul f k n, Nat.add_mul]
def oc (n s : Nat) : Nat := cnt (fun d => !s.testBit d) n
theorem cnt_s (f : Nat → Bool) (n : Nat) : cnt f (n + 1) = cnt f n + if f n then 1 else 0 := rfl
theorem oc_le (n s : Nat) : oc n s ≤ n := cnt_le _ _
theorem oc_s (n s : Nat) : oc (n + 1) s = oc n s + if s.testBit n then 0 else 1 := by
  unfold oc
  rw [cnt_s]
  cases s.testBit n <;> rfl
theorem oc_split {s v : Nat} (h : v &&& s = 0) : ∀ n, oc n s = cnt v.testBit n + oc n (s ||| v)
  | 0 => rfl
  | n + 1 => by
    rw [oc_s, oc_s, cnt_s, oc_split h n, Nat.testBit_or]
    have e := congrArg (fun x => Nat.testBit x n) h
    simp only [Nat.testBit_and, Nat.zero_testBit] at e
    revert e
    cases s.testBit n <;> cases v.testBit n <;> simp <;> omega
theorem oc_congr {s s' : Nat} (n : Nat) (h : ∀ i, i < n → s.testBit i = s'.testBit i) : oc n s = oc n s' := cnt_congr n (fun i hi => by rw [h i hi])
def subT (c n s v : Nat) : Nat := if v &&& s = 0 then c ^ oc n (s ||| v) else 0
theorem low_bit {n v i : Nat} (hv : v < 2 ^ n) (hi : n ≤ i) : v.testBit i = false := Nat.testBit_lt_two_pow (Nat.lt_of_lt_of_le hv (pow_le31 hi))
theorem subT_sum (c s : Nat) : ∀ n, sumN (subT c n s) (2 ^ n) = (c + 1) ^ oc n s
  | 0 => by
    show sumN (subT c 0 s) 1 = _
    rw [sumN_s]
    unfold subT
    rw [Nat.zero_and, if_pos rfl]
    rfl
  | n + 1 => by
    have ih := subT_sum c s n
    rw [Nat.pow_succ, Nat.mul_two, sumN_app]
    have e1 : sumN (subT c (n + 1) s) (2 ^ n) = sumN (subT c n s) (2 ^ n) * (if s.testBit n then 1 else c) := by
      rw [← sumN_mul]
      refine sumN_congr _ (fun v hv => ?_)
      unfold subT
      by_cases q : v &&& s = 0
      · rw [if_pos q, if_pos q, oc_s, Nat.testBit_or, low_bit hv (Nat.le_refl n), Bool.or_false]
        cases s.testBit n
        · simp [Nat.pow_succ]
        · simp
      · rw [if_neg q, if_neg q, Nat.zero_mul]
    have e2 : sumN (fun i => subT c (n + 1) s (2 ^ n + i)) (2 ^ n) = sumN (subT c n s) (2 ^ n) * (if s.testBit n then 0 else 1) := by
      rw [← sumN_mul]
      refine sumN_congr _ (fun v hv => ?_)
      have ev : 2 ^ n + v = 2 ^ n ||| v := Nat.two_pow_add_eq_or_of_lt hv 1 |> fun h => by simpa using h
      unfold subT
      rw [ev]
      cases hs : s.testBit n
      · have q1 : ((2 ^ n ||| v) &&& s = 0) ↔ (v &&& s = 0) := by
          have : 2 ^ n &&& s = 0 := by
            apply Nat.eq_of_testBit_eq
            intro i
            rw [Nat.testBit_and, two_bit, Nat.zero_testBit]
            by_cases z : n = i
            · subst z; rw [hs, Bool.and_false]
            · rw [decide_eq_false z]; rfl
          rw [Nat.and_or_distrib_right, this, Nat.zero_or]
        have q2 : oc (n + 1) (s ||| (2 ^ n ||| v)) = oc n (s ||| v) := by
          rw [oc_s, Nat.testBit_or, Nat.testBit_or, two_bit, decide_eq_true rfl]
          simp only [Bool.true_or, Bool.or_true, if_true, Nat.add_zero]
          refine oc_congr n (fun i hi => ?_)
          rw [Nat.testBit_or, Nat.testBit_or, Nat.testBit_or, two_bit, decide_eq_false (by omega), Bool.false_or]
        simp only [q1, q2, Bool.false_eq_true, if_false, Nat.mul_one]
      · have q1 : ¬ (2 ^ n ||| v) &&& s = 0 := fun z => by
          have := congrArg (fun x => Nat.testBit x n) z
          simp only [Nat.testBit_and, Nat.testBit_or, two_bit, Nat.zero_testBit, hs] at this
          simp at this
        rw [if_neg q1]
        simp
    rw [e1, e2, ih, oc_s]
    cases s.testBit n
    · simp [Nat.pow_succ, Nat.mul_add]
    · simp
/-! in how many ways -/
def okB (P : dpS) (m s v : Nat) : Bool := decide (v &&& m = v) && decide (v &&& s = 0) && P.1 v
theorem okB_iff {P : dpS} {m s v : Nat} : okB P m s v = true ↔ okN P m s v := by
  unfold okB okN
  simp only [Bool.and_eq_true, decide_eq_true_eq, and_assoc]
def optB (P : dpS) (mk : Nat → Nat) (j t s v : Nat) : Bool := okB P (mk t) s v && decide (dpc P t (Lo P mk j (t + 1)) s v = Lo P mk (j + 1) t s)
def Wn (P : dpS) (mk : Nat → Nat) (N : Nat) : Nat → Nat → Nat → Nat
  | 0, _, _ => 1
  | j + 1, t, s => sumN (fun v => if optB P mk j t s v then Wn P mk N j (t + 1) (s ||| v) else 0) (2 ^ N)
theorem Wn_s (P : dpS) (mk : Nat → Nat) (N j t s : Nat) : Wn P mk N (j + 1) t s = sumN (fun v => if optB P mk j t s v then Wn P mk N j (t + 1) (s ||| v) else 0) (2 ^ N) := rfl
theorem opt_ex {P : dpS} (hP : gdP P) (mk : Nat → Nat) (j t s : Nat) : ∃ v, optB P mk j t s v = true := by
  obtain ⟨v, v1, v2⟩ := Lo_att hP mk j t s
  exact ⟨v, by unfold optB; rw [okB_iff.mpr v1, decide_eq_true v2.symm]; rfl⟩
theorem opt_ok {P : dpS} {mk : Nat → Nat} {j t s v : Nat} (h : optB P mk j t s v = true) : okN P (mk t) s v ∧ dpc P t (Lo P mk j (t + 1)) s v = Lo P mk (j + 1) t s := by
  unfold optB at h
  rw [Bool.and_eq_true, decide_eq_true_eq] at h
  exact ⟨okB_iff.mp h.1, h.2⟩
theorem Wn_pos {P : dpS} (hP : gdP P) {mk : Nat → Nat} {N : Nat} (hm : ∀ x, mk x < 2 ^ N) : ∀ j t s, 0 < Wn P mk N j t s
  | 0, _, _ => Nat.one_pos
  | j + 1, t, s => by
    obtain ⟨v, hv⟩ := opt_ex hP mk j t s
    have hl : v < 2 ^ N := Nat.lt_of_le_of_lt (and_le (opt_ok hv).1.1) (hm t)
    rw [Wn_s]
    have := sumN_ge (f := fun v => if optB P mk j t s v then Wn P mk N j (t + 1) (s ||| v) else 0) _ hl
    simp only [hv, if_true] at this
    have := Wn_pos hP hm j (t + 1) (s ||| v)
    omega
theorem Wn_le {P : dpS} {mk : Nat → Nat} {N : Nat} : ∀ j t s, Wn P mk N j t s ≤ (j + 1) ^ oc N s
  | 0, _, s => by
    show 1 ≤ _
    rw [Nat.one_pow]
    exact Nat.le_refl 1
  | j + 1, t, s => by
    rw [Wn_s, ← subT_sum]
    refine sumN_le _ (fun v _ => ?_)
    unfold subT
    split
    · rename_i h
      rw [if_pos (opt_ok h).1.2.1]
      exact Wn_le j (t + 1) (s ||| v)
    · omega
theorem Wn_63 {P : dpS} {mk : Nat → Nat} {N : Nat} (hN : N ≤ 8) {j : Nat} (hj : j ≤ 12) (t s : Nat) : Wn P mk N j t s < 2 ^ 40 := by
  have h1 := Wn_le (P := P) (mk := mk) (N := N) j t s
  have h2 : (j + 1) ^ oc N s ≤ 13 ^ oc N s := Nat.pow_le_pow_left (by omega) _
  have h3 : 13 ^ oc N s ≤ 13 ^ 8 := Nat.pow_le_pow_right (by decide) (by have := oc_le N s; omega)
  have h4 : 13 ^ 8 < 2 ^ 40 := by decide
  omega
/-- a loss is so many tens of thousands and a small rest -/
theorem Lo_form {P : dpS} (hP : gdP P) {mk : Nat → Nat} {N : Nat} (hR : ∀ v, P.2.1 v ≤ 9 * cnt v.testBit N) (hT : ∀ s, ∃ i, P.2.2 s = 10000 * oc N s + i ∧ i ≤ 108 * oc N s) : ∀ j t s, t + j ≤ 12 → ∃ m i, Lo P mk j t s = 10000 * m + i ∧ m ≤ oc N s ∧ i ≤ 108 * oc N s
  | 0, t, s, _ => by
    obtain ⟨i, h1, h2⟩ := hT s
    exact ⟨oc N s, i, h1, Nat.le_refl _, h2⟩
  | j + 1, t, s, h => by
    obtain ⟨v, v1, v2⟩ := Lo_att hP mk j t s
    obtain ⟨m, i, m1, m2, m3⟩ := Lo_form hP hR hT j (t + 1) (s ||| v) (by omega)
    have e := oc_split v1.2.1 N
    have r : t * P.2.1 v ≤ 12 * (9 * cnt v.testBit N) := Nat.mul_le_mul (by omega) (hR v)
    refine ⟨m, t * P.2.1 v + i, ?_, by omega, by omega⟩
    rw [v2, show dpc P t (Lo P mk j (t + 1)) s v = t * P.2.1 v + Lo P mk j (t + 1) (s ||| v) from rfl, m1]
    omega
