/-! PURE: rounds in numbers: the least loss from an hour on, the least loss up to an hour -/
theorem sub_diff {v m s : Nat} : (v &&& diff m s = v) ↔ (v &&& m = v ∧ v &&& s = 0) := by
  constructor
  · intro h
    have hb : ∀ i, v.testBit i = true → m.testBit i = true ∧ s.testBit i = false := fun i hi => by
      have := congrArg (fun x => Nat.testBit x i) h
      simp only [Nat.testBit_and, diff_bit, hi, Bool.true_and, Bool.and_eq_true, Bool.not_eq_true'] at this
      exact this
    constructor
    · apply Nat.eq_of_testBit_eq
      intro i
      rw [Nat.testBit_and]
      cases hi : v.testBit i
      · rfl
      · rw [(hb i hi).1]; rfl
    · apply Nat.eq_of_testBit_eq
      intro i
      rw [Nat.testBit_and, Nat.zero_testBit]
      cases hi : v.testBit i
      · rfl
      · rw [(hb i hi).2]; rfl
  · intro ⟨h1, h2⟩
    apply Nat.eq_of_testBit_eq
    intro i
    have e1 := congrArg (fun x => Nat.testBit x i) h1
    have e2 := congrArg (fun x => Nat.testBit x i) h2
    simp only [Nat.testBit_and, Nat.zero_testBit] at e1 e2
    rw [Nat.testBit_and, diff_bit]
    cases hi : v.testBit i
    · rfl
    · rw [hi] at e1 e2
      simp only [Bool.true_and] at e1 e2
      rw [e1, e2]; rfl
theorem sub_and {v m s : Nat} : (v &&& (m &&& s) = v) ↔ (v &&& m = v ∧ v &&& s = v) := by
  constructor
  · intro h
    constructor
    · rw [← h, Nat.and_assoc, Nat.and_assoc, Nat.and_comm s m, ← Nat.and_assoc m m s, Nat.and_self]
    · rw [← h, Nat.and_assoc, Nat.and_assoc, Nat.and_self]
  · intro ⟨h1, h2⟩
    rw [← Nat.and_assoc, h1, h2]
theorem or_diff {s v : Nat} (h : v &&& s = v) : diff s v ||| v = s := by
  apply Nat.eq_of_testBit_eq
  intro i
  have e := congrArg (fun x => Nat.testBit x i) h
  simp only [Nat.testBit_and] at e
  rw [Nat.testBit_or, diff_bit]
  revert e
  cases s.testBit i <;> cases v.testBit i <;> simp
theorem diff_and (s v : Nat) : v &&& diff s v = 0 := by
  apply Nat.eq_of_testBit_eq
  intro i
  rw [Nat.testBit_and, diff_bit, Nat.zero_testBit]
  cases s.testBit i <;> cases v.testBit i <;> rfl
theorem diff_or {s v : Nat} (h : v &&& s = 0) : diff (s ||| v) v = s := by
  apply Nat.eq_of_testBit_eq
  intro i
  have e := congrArg (fun x => Nat.testBit x i) h
  simp only [Nat.testBit_and, Nat.zero_testBit] at e
  rw [diff_bit, Nat.testBit_or]
  revert e
  cases s.testBit i <;> cases v.testBit i <;> simp
abbrev dpS : Type := (Nat → Bool) × (Nat → Nat) × (Nat → Nat)
def minSt (g : Nat → Bool) (c : Nat → Nat) (v a : Nat) : Nat := if g v then min a (c v) else a
theorem dfold_s {α : Type} (st : Nat → α → α) (m n : Nat) (a : α) : dfold st m (n + 1) a = dfold st m n (if (n + 1) &&& m = n + 1 then st (n + 1) a else a) := rfl
theorem dfold_min (g : Nat → Bool) (c : Nat → Nat) (m : Nat) : ∀ n a, dfold (minSt g c) m n a ≤ a ∧ (∀ v, 0 < v → v ≤ n → v &&& m = v → g v = true → dfold (minSt g c) m n a ≤ c v) ∧ (dfold (minSt g c) m n a = a ∨ ∃ v, 0 < v ∧ v ≤ n ∧ v &&& m = v ∧ g v = true ∧ dfold (minSt g c) m n a = c v)
  | 0, a => ⟨Nat.le_refl _, fun v h1 h2 => by omega, Or.inl rfl⟩
  | n + 1, a => by
    rw [dfold_s]
    by_cases q : (n + 1) &&& m = n + 1 ∧ g (n + 1) = true
    · have e : (if (n + 1) &&& m = n + 1 then minSt g c (n + 1) a else a) = min a (c (n + 1)) := by rw [if_pos q.1]; unfold minSt; rw [if_pos q.2]
      rw [e]
      obtain ⟨h1, h2, h3⟩ := dfold_min g c m n (min a (c (n + 1)))
      refine ⟨by omega, fun v v1 v2 v3 v4 => ?_, ?_⟩
      · by_cases z : v = n + 1
        · subst z; omega
        · exact h2 v v1 (by omega) v3 v4
      · rcases h3 with h3 | ⟨v, v1, v2, v3, v4, v5⟩
        · by_cases z : a ≤ c (n + 1)
          · left; omega
          · right; exact ⟨n + 1, by omega, by omega, q.1, q.2, by omega⟩
        · exact Or.inr ⟨v, v1, by omega, v3, v4, v5⟩
    · have e : (if (n + 1) &&& m = n + 1 then minSt g c (n + 1) a else a) = a := by
        by_cases z : (n + 1) &&& m = n + 1
        · rw [if_pos z]; unfold minSt; rw [if_neg (fun y => q ⟨z, y⟩)]
        · rw [if_neg z]
      rw [e]
      obtain ⟨h1, h2, h3⟩ := dfold_min g c m n a
      refine ⟨h1, fun v v1 v2 v3 v4 => ?_, ?_⟩
      · by_cases z : v = n + 1
        · subst z; exact absurd ⟨v3, v4⟩ q
        · exact h2 v v1 (by omega) v3 v4
      · rcases h3 with h3 | ⟨v, v1, v2, v3, v4, v5⟩
        · exact Or.inl h3
        · exact Or.inr ⟨v, v1, by omega, v3, v4, v5⟩
/-- what is paid in hour t if the set v is paid then -/
def dpc (P : dpS) (t : Nat) (nx : Nat → Nat) (s v : Nat) : Nat := t * P.2.1 v + nx (s ||| v)
def Lo (P : dpS) (mk : Nat → Nat) : Nat → Nat → Nat → Nat
  | 0, _, s => P.2.2 s
  | j + 1, t, s => dfold (minSt P.1 (dpc P t (Lo P mk j (t + 1)) s)) (diff (mk t) s) (diff (mk t) s) (Lo P mk j (t + 1) s)
theorem Lo_s (P : dpS) (mk : Nat → Nat) (j t s : Nat) : Lo P mk (j + 1) t s = dfold (minSt P.1 (dpc P t (Lo P mk j (t + 1)) s)) (diff (mk t) s) (diff (mk t) s) (Lo P mk j (t + 1) s) := rfl
def okN (P : dpS) (m s v : Nat) : Prop := v &&& m = v ∧ v &&& s = 0 ∧ P.1 v = true
def gdP (P : dpS) : Prop := P.1 0 = true ∧ P.2.1 0 = 0
theorem dpc_0 {P : dpS} (hP : gdP P) (t : Nat) (nx : Nat → Nat) (s : Nat) : dpc P t nx s 0 = nx s := by
  unfold dpc
  rw [hP.2, Nat.or_zero, Nat.mul_zero, Nat.zero_add]
theorem okN_0 {P : dpS} (hP : gdP P) (m s : Nat) : okN P m s 0 := ⟨Nat.zero_and m, Nat.zero_and s, hP.1⟩
theorem and_le {v m : Nat} (h : v &&& m = v) : v ≤ m := by rw [← h]; exact Nat.and_le_right
theorem Lo_le {P : dpS} (hP : gdP P) {mk : Nat → Nat} {j t s v : Nat} (h : okN P (mk t) s v) : Lo P mk (j + 1) t s ≤ dpc P t (Lo P mk j (t + 1)) s v := by
  rw [Lo_s]
  obtain ⟨h1, h2, -⟩ := dfold_min P.1 (dpc P t (Lo P mk j (t + 1)) s) (diff (mk t) s) (diff (mk t) s) (Lo P mk j (t + 1) s)
  rcases Nat.eq_zero_or_pos v with e | e
  · subst e; rw [dpc_0 hP]; exact h1
  · have hs := sub_diff.mpr ⟨h.1, h.2.1⟩
    exact h2 v e (and_le hs) hs h.2.2
theorem Lo_att {P : dpS} (hP : gdP P) (mk : Nat → Nat) (j t s : Nat) : ∃ v, okN P (mk t) s v ∧ Lo P mk (j + 1) t s = dpc P t (Lo P mk j (t + 1)) s v := by
  rw [Lo_s]
  obtain ⟨-, -, h3⟩ := dfold_min P.1 (dpc P t (Lo P mk j (t + 1)) s) (diff (mk t) s) (diff (mk t) s) (Lo P mk j (t + 1) s)
  rcases h3 with h3 | ⟨v, v1, v2, v3, v4, v5⟩
  · exact ⟨0, okN_0 hP _ _, by rw [dpc_0 hP]; exact h3⟩
  · exact ⟨v, ⟨(sub_diff.mp v3).1, (sub_diff.mp v3).2, v4⟩, v5⟩
theorem Lo_T {P : dpS} (hP : gdP P) (mk : Nat → Nat) : ∀ j t s, Lo P mk j t s ≤ P.2.2 s
  | 0, _, _ => Nat.le_refl _
  | j + 1, t, s => by
    have h := Lo_le hP (j := j) (okN_0 hP (mk t) s)
    rw [dpc_0 hP] at h
    exact Nat.le_trans h (Lo_T hP mk j (t + 1) s)
theorem Lo_congr {P : dpS} {mk mk' : Nat → Nat} : ∀ j t, (∀ x, t ≤ x → x < t + j → mk x = mk' x) → ∀ s, Lo P mk j t s = Lo P mk' j t s
  | 0, _, _, _ => rfl
  | j + 1, t, h, s => by
    have e : Lo P mk j (t + 1) = Lo P mk' j (t + 1) := funext (Lo_congr j (t + 1) (fun x h1 h2 => h x (by omega) (by omega)))
    rw [Lo_s, Lo_s, e, h t (Nat.le_refl t) (by omega)]
theorem Lo_mono {P : dpS} (hP : gdP P) {mk : Nat → Nat} : ∀ j t s, Lo P mk (j + 1) t s ≤ Lo P mk j t s
  | 0, t, s => Lo_T hP mk 1 t s
  | j + 1, t, s => by
    obtain ⟨v, v1, v2⟩ := Lo_att hP mk j t s
    refine Nat.le_trans (Lo_le hP (j := j + 1) v1) ?_
    rw [v2]
    unfold dpc
    have := Lo_mono hP (mk := mk) j (t + 1) (s ||| v)
    omega
theorem Lo_mon {P : dpS} (hP : gdP P) {mk : Nat → Nat} (t s a : Nat) : ∀ b, Lo P mk (a + b) t s ≤ Lo P mk a t s
  | 0 => Nat.le_refl _
  | b + 1 => Nat.le_trans (Lo_mono hP (a + b) t s) (Lo_mon hP t s a b)
/-! up to an hour -/
def Pl (P : dpS) (mk : Nat → Nat) : Nat → Nat → Nat
  | 0, s => if s = 0 then 0 else 1000000
  | t + 1, s => dfold (minSt P.1 (fun v => Pl P mk t (diff s v) + t * P.2.1 v)) (mk t &&& s) (mk t &&& s) (Pl P mk t s)
theorem Pl_s (P : dpS) (mk : Nat → Nat) (t s : Nat) : Pl P mk (t + 1) s = dfold (minSt P.1 (fun v => Pl P mk t (diff s v) + t * P.2.1 v)) (mk t &&& s) (mk t &&& s) (Pl P mk t s) := rfl
theorem diff_0 (s : Nat) : diff s 0 = s := by unfold diff; rw [Nat.and_zero, Nat.xor_zero]
theorem Pl_le {P : dpS} (hP : gdP P) {mk : Nat → Nat} {t s v : Nat} (h1 : v &&& mk t = v) (h2 : v &&& s = v) (h3 : P.1 v = true) : Pl P mk (t + 1) s ≤ Pl P mk t (diff s v) + t * P.2.1 v := by
  rw [Pl_s]
  obtain ⟨g1, g2, -⟩ := dfold_min P.1 (fun v => Pl P mk t (diff s v) + t * P.2.1 v) (mk t &&& s) (mk t &&& s) (Pl P mk t s)
  rcases Nat.eq_zero_or_pos v with e | e
  · subst e; rw [hP.2, diff_0]; omega
  · have hs := sub_and.mpr ⟨h1, h2⟩
    exact g2 v e (and_le hs) hs h3
theorem Pl_att {P : dpS} (hP : gdP P) (mk : Nat → Nat) (t s : Nat) : ∃ v, v &&& mk t = v ∧ v &&& s = v ∧ P.1 v = true ∧ Pl P mk (t + 1) s = Pl P mk t (diff s v) + t * P.2.1 v := by
  rw [Pl_s]
  obtain ⟨-, -, h3⟩ := dfold_min P.1 (fun v => Pl P mk t (diff s v) + t * P.2.1 v) (mk t &&& s) (mk t &&& s) (Pl P mk t s)
  rcases h3 with h3 | ⟨v, v1, v2, v3, v4, v5⟩
  · exact ⟨0, Nat.zero_and _, Nat.zero_and _, hP.1, by rw [hP.2, diff_0]; omega⟩
  · exact ⟨v, (sub_and.mp v3).1, (sub_and.mp v3).2, v4, v5⟩
theorem Pl_top {P : dpS} (hP : gdP P) (mk : Nat → Nat) : ∀ t s, Pl P mk t s ≤ 1000000
  | 0, s => by unfold Pl; split <;> omega
  | t + 1, s => by
    have h := Pl_le hP (mk := mk) (t := t) (s := s) (v := 0) (Nat.zero_and _) (Nat.zero_and _) hP.1
    rw [hP.2, diff_0] at h
    have := Pl_top hP mk t s
    omega
theorem Pl_congr {P : dpS} {mk mk' : Nat → Nat} : ∀ t, (∀ x, x < t → mk x = mk' x) → ∀ s, Pl P mk t s = Pl P mk' t s
  | 0, _, _ => rfl
  | t + 1, h, s => by
    have e : Pl P mk t = Pl P mk' t := funext (Pl_congr t (fun x h1 => h x (by omega)))
    rw [Pl_s, Pl_s, e, h t (by omega)]
/-- the least loss of all, cut at an hour -/
theorem split {P : dpS} (hP : gdP P) {mk : Nat → Nat} {N : Nat} (hT : P.2.2 0 < 1000000) (hm : ∀ x v s, v &&& mk x = v → s < 2 ^ N → s ||| v < 2 ^ N) : ∀ t j, (∀ s, Lo P mk (t + j) 0 0 ≤ Pl P mk t s + Lo P mk j t s) ∧ ∃ s, s < 2 ^ N ∧ Pl P mk t s + Lo P mk j t s = Lo P mk (t + j) 0 0
  | 0, j => by
    rw [Nat.zero_add]
    refine ⟨fun s => ?_, 0, Nat.two_pow_pos N, by unfold Pl; rw [if_pos rfl, Nat.zero_add]⟩
    unfold Pl
    by_cases e : s = 0
    · rw [e, if_pos rfl]; omega
    · rw [if_neg e]
      have := Lo_T hP mk j 0 0
      omega
  | t + 1, j => by
    obtain ⟨h1, s, s1, s2⟩ := split hP hT hm t (j + 1)
    rw [show t + 1 + j = t + (j + 1) by omega]
    have low : ∀ s, Lo P mk (t + (j + 1)) 0 0 ≤ Pl P mk (t + 1) s + Lo P mk j (t + 1) s := fun s => by
      obtain ⟨v, v1, v2, v3, v4⟩ := Pl_att hP mk t s
      have a1 := h1 (diff s v)
      have a2 := Lo_le hP (mk := mk) (j := j) (t := t) (s := diff s v) (v := v) ⟨v1, diff_and s v, v3⟩
      unfold dpc at a2
      rw [or_diff v2] at a2
      omega
    refine ⟨low, ?_⟩
    obtain ⟨v, v1, v2⟩ := Lo_att hP mk j t s
    have s3 := hm t v s v1.1 s1
    refine ⟨s ||| v, s3, ?_⟩
    have b1 := low (s ||| v)
    have b2 := Pl_le hP (mk := mk) (t := t) (s := s ||| v) (v := v) v1.1 (by rw [Nat.and_or_distrib_left, v1.2.1, Nat.and_self, Nat.zero_or]) v1.2.2
    rw [diff_or v1.2.1] at b2
    unfold dpc at v2
    omega
