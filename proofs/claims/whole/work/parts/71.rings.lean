/-! PURE: rings -/
def owN (τ : pS) (s : Nat) : Nat → Nat
  | 0 => 0
  | n + 1 => owN τ s n ||| (if s.testBit (fN τ n) then 2 ^ tN τ n else 0)
theorem owN_s (τ : pS) (s n : Nat) : owN τ s (n + 1) = owN τ s n ||| (if s.testBit (fN τ n) then 2 ^ tN τ n else 0) := rfl
theorem owN_bit (τ : pS) (s x : Nat) : ∀ n, ((owN τ s n).testBit x = true ↔ ∃ d, d < n ∧ s.testBit (fN τ d) = true ∧ tN τ d = x)
  | 0 => by simp [owN]
  | n + 1 => by
    rw [owN_s, Nat.testBit_or, Bool.or_eq_true, owN_bit τ s x n]
    constructor
    · rintro (⟨d, h1, h2, h3⟩ | h)
      · exact ⟨d, by omega, h2, h3⟩
      · by_cases q : s.testBit (fN τ n) = true
        · rw [if_pos q, two_bit] at h
          exact ⟨n, by omega, q, by simpa using h⟩
        · rw [if_neg q] at h
          simp at h
    · rintro ⟨d, h1, h2, h3⟩
      by_cases e : d = n
      · right
        subst e
        rw [if_pos h2, two_bit]
        simpa using h3
      · exact Or.inl ⟨d, by omega, h2, h3⟩
theorem owN_lt {τ : pS} {s : Nat} : ∀ n, (∀ i, i < n → tN τ i < 6) → owN τ s n < 64
  | 0, _ => by simp [owN]
  | n + 1, h => by
    rw [owN_s]
    refine Nat.or_lt_two_pow (n := 6) (owN_lt n (fun i hi => h i (by omega))) ?_
    split
    · exact Nat.pow_lt_pow_right (by decide) (h n (by omega))
    · decide
def owS (τ : pS) (s : Nat) : Nat := owN τ s (td τ)
theorem owS_lt {τ : pS} (ho : Ro τ) (s : Nat) : owS τ s < 64 := owN_lt _ (fun i hi => Nat.lt_of_lt_of_le (dN_ok ho hi).2.1.2 ho.1)
def rchN (τ : pS) (p : Nat) : Nat → Nat
  | 0 => 2 ^ p
  | k + 1 => owS τ (rchN τ p k)
theorem rchN_lt {τ : pS} (ho : Ro τ) {p : Nat} (hp : p < tn τ) : ∀ k, rchN τ p k < 64
  | 0 => Nat.pow_lt_pow_right (a := 2) (m := p) (n := 6) (by decide) (Nat.lt_of_lt_of_le hp ho.1)
  | k + 1 => owS_lt ho _
theorem owedBy_eq {σ τ : pS} (h : RR σ τ) {s : Nat} (hs : s < 64) : fX3_owedBy σ (pR σ 0 8) (nI s) = some (nI (owS τ s)) := by
  have o1 := hN6 h
  have o2 := hD8 h
  unfold fX3_owedBy owS
  refine whF (fun F (a : Int32) v => lX3_owedBy_4 σ (pR σ 0 8) (nI s) (fun y3 => some y3) F a v) (n := td τ) (by omega) (fun j => nI (owN τ s j)) _ (fun F => ?_) (fun F j hj => ?_)
  · show lX3_owedBy_4 σ _ _ _ (F + 1) _ _ = _
    rw [lX3_owedBy_4.eq_2, hV h, hD h, if_pos rfl, if_pos (nI_le (Nat.le_refl _) (by omega))]
  · show lX3_owedBy_4 σ _ _ _ (F + 1) _ _ = _
    obtain ⟨⟨a1, a2⟩, ⟨b1, b2⟩, -⟩ := dN_ok h.2.2.2.2.1 hj
    rw [lX3_owedBy_4.eq_2, hV h, hD h, if_pos rfl, if_neg (nI_nge (by omega) (by omega)), pin_lit (show j < 8 by omega) (by decide), nI_clamp (by omega), hF0 h hj, hF1 h hj, holds_eq (by omega) (by omega), q_one (by omega), q_or, owN_s]
    simp only [if_true, obind_some, plet_eq, nI_1, b2i_0]
    cases s.testBit (fN τ j)
    · simp
    · simp
theorem mowedBy_eq {τ : pS} (ho : Ro τ) {s : Nat} (hs : s < 64) (a b c : Int32) (k : Int32 → Option Int32) : lX5_ringOf_26 τ a b (nI s) c k FU 0 0 = k (nI (owS τ s)) := by
  have o1 := ho.1
  have o2 := ho.2.1
  unfold owS
  refine whF (fun F (x : Int32) v => lX5_ringOf_26 τ a b (nI s) c k F x v) (n := td τ) (by omega) (fun j => nI (owN τ s j)) _ (fun F => ?_) (fun F j hj => ?_)
  · show lX5_ringOf_26 τ _ _ _ _ _ (F + 1) _ _ = _
    rw [lX5_ringOf_26.eq_2, ho.2.2.2.1, if_pos (nI_le (Nat.le_refl _) (by omega))]
  · show lX5_ringOf_26 τ _ _ _ _ _ (F + 1) _ _ = _
    obtain ⟨⟨a1, a2⟩, ⟨b1, b2⟩, -⟩ := dN_ok ho hj
    rw [lX5_ringOf_26.eq_2, ho.2.2.2.1, if_neg (nI_nge (by omega) (by omega)), debt0 ho hj, obind_some, has_eq (by omega) (by omega), debt1 ho hj, owN_s]
    simp only [obind_some, plet_eq, nI_1, b2i_0, q_one (show tN τ j < 31 by omega), q_or, or_0]
    cases s.testBit (fN τ j)
    · simp
    · simp
def rgF (τ : pS) (p k : Nat) : Nat := if (rchN τ p (k + 1)).testBit p then 1 else 0
theorem rgF_0 {τ : pS} {p k : Nat} (h : rgF τ p k = 0) : (rchN τ p (k + 1)).testBit p = false := by
  unfold rgF at h
  cases q : (rchN τ p (k + 1)).testBit p
  · rfl
  · rw [q] at h; exact absurd h (by decide)
theorem rgF_1 {τ : pS} {p k : Nat} (h : ¬ rgF τ p k = 0) : (rchN τ p (k + 1)).testBit p = true := by
  unfold rgF at h
  cases q : (rchN τ p (k + 1)).testBit p
  · rw [q] at h; exact absurd rfl h
  · rfl
/-- what the reference's search knows: met, now, after k steps -/
def bfs (τ : pS) (p k met now : Nat) : Prop := met < 64 ∧ now < 64 ∧ (∀ x, met.testBit x = true ↔ ∃ i, i ≤ k ∧ (rchN τ p i).testBit x = true) ∧ (∀ x, now.testBit x = true → (rchN τ p k).testBit x = true) ∧ ∀ x, (rchN τ p k).testBit x = true → now.testBit x = true ∨ ∃ i, i < k ∧ (rchN τ p i).testBit x = true
theorem ow_mono {τ : pS} {a b x : Nat} (h : ∀ y, a.testBit y = true → b.testBit y = true) (hx : (owS τ a).testBit x = true) : (owS τ b).testBit x = true := by
  unfold owS at hx ⊢
  rw [owN_bit] at hx ⊢
  obtain ⟨d, h1, h2, h3⟩ := hx
  exact ⟨d, h1, h _ h2, h3⟩
/-- what is owed by the reached is owed by now, or was reached before -/
theorem ow_split {τ : pS} {p k met now x : Nat} (B : bfs τ p k met now) (hx : (rchN τ p (k + 1)).testBit x = true) : (owS τ now).testBit x = true ∨ ∃ i, 1 ≤ i ∧ i ≤ k ∧ (rchN τ p i).testBit x = true := by
  have hx : (owS τ (rchN τ p k)).testBit x = true := hx
  unfold owS at hx
  rw [owN_bit] at hx
  obtain ⟨d, h1, h2, h3⟩ := hx
  rcases B.2.2.2.2 _ h2 with h | ⟨i, hi, h⟩
  · left
    unfold owS
    rw [owN_bit]
    exact ⟨d, h1, h, h3⟩
  · right
    refine ⟨i + 1, by omega, by omega, ?_⟩
    show (owS τ (rchN τ p i)).testBit x = true
    unfold owS
    rw [owN_bit]
    exact ⟨d, h1, h, h3⟩
theorem bfs_hit {τ : pS} {p k met now : Nat} (B : bfs τ p k met now) (hn : ∀ e, e < k → rgF τ p e = 0) : (owS τ now).testBit p = (rchN τ p (k + 1)).testBit p := by
  apply Bool.eq_iff_iff.mpr
  constructor
  · exact fun h => ow_mono B.2.2.2.1 h
  · intro h
    rcases ow_split B h with h | ⟨i, h1, h2, h3⟩
    · exact h
    · obtain ⟨i, rfl⟩ : ∃ j, i = j + 1 := ⟨i - 1, by omega⟩
      rw [rgF_0 (hn i (by omega))] at h3
      exact absurd h3 (by decide)
theorem bfs_next {τ : pS} (ho : Ro τ) {p k met now : Nat} (B : bfs τ p k met now) : bfs τ p (k + 1) (met ||| owS τ now) (diff (owS τ now) met) := by
  have ol := owS_lt ho now
  refine ⟨Nat.or_lt_two_pow (n := 6) B.1 ol, Nat.lt_of_le_of_lt (diff_le _ _) ol, fun x => ?_, fun x => ?_, fun x => ?_⟩
  · rw [Nat.testBit_or, Bool.or_eq_true, B.2.2.1 x]
    constructor
    · rintro (⟨i, h1, h2⟩ | h)
      · exact ⟨i, by omega, h2⟩
      · exact ⟨k + 1, Nat.le_refl _, ow_mono B.2.2.2.1 h⟩
    · rintro ⟨i, h1, h2⟩
      by_cases e : i = k + 1
      · subst e
        rcases ow_split B h2 with h | ⟨i, h3, h4, h5⟩
        · exact Or.inr h
        · exact Or.inl ⟨i, h4, h5⟩
      · exact Or.inl ⟨i, by omega, h2⟩
  · rw [diff_bit]
    intro h
    simp at h
    exact ow_mono B.2.2.2.1 h.1
  · intro h
    by_cases q : met.testBit x = true
    · right
      obtain ⟨i, h1, h2⟩ := (B.2.2.1 x).mp q
      exact ⟨i, by omega, h2⟩
    · rcases ow_split B h with h | ⟨i, h1, h2, h3⟩
      · left
        rw [diff_bit, h]
        simpa using q
      · exact Or.inr ⟨i, by omega, h3⟩
theorem bfs_0 {τ : pS} (ho : Ro τ) {p : Nat} (hp : p < tn τ) : bfs τ p 0 (2 ^ p) (2 ^ p) := by
  have hl := rchN_lt ho hp 0
  refine ⟨hl, hl, fun x => ?_, fun x h => h, fun x h => Or.inl h⟩
  constructor
  · exact fun h => ⟨0, Nat.le_refl _, h⟩
  · rintro ⟨i, h1, h2⟩
    have : i = 0 := by omega
    subst this
    exact h2
theorem ring_both {σ τ : pS} (h : RR σ τ) {p : Nat} (hp : p < tn τ) : ∃ r, r ≤ 6 ∧ fX3_smallestRing σ (pR σ 0 8) (nI p) = some (nI r) ∧ fX5_ringOf τ (nI p) = some (nI r) := by
  have ho := h.2.2.2.2.1
  have o1 := hN6 h
  unfold fX3_smallestRing fX5_ringOf
  rw [q_one (show p < 31 by omega)]
  simp only [plet_eq]
  have xs : ∀ (F j : Nat), j < tn τ → lX3_smallestRing_6 σ (pR σ 0 8) (nI p) (some 0) (F + 1) (nI (rchN τ p j)) (nI j + 1) = if (rchN τ p (j + 1)).testBit p = false then lX3_smallestRing_6 σ (pR σ 0 8) (nI p) (some 0) F (nI (rchN τ p (j + 1))) (nI (j + 1) + 1) else some (nI (j + 1)) := by
    intro F j hj
    have rl := rchN_lt ho hp (j + 1)
    have rl' : owS τ (rchN τ p j) < 64 := rl
    rw [lX3_smallestRing_6.eq_2, hV h, hPn h, if_pos rfl, nI_1, if_neg (nI_nlt (by omega) (by omega)), owedBy_eq h (rchN_lt ho hp j), obind_some, holds_eq (by omega) (by omega), obind_some]
    simp only [b2i_0]
    rfl
  have ms : ∀ (F j met now : Nat), j < tn τ → bfs τ p j met now → (∀ e, e < j → rgF τ p e = 0) → lX5_ringOf_11 τ (nI p) (some 0) (F + 1) (nI met) (nI now) (nI j + 1) = if (rchN τ p (j + 1)).testBit p = false then lX5_ringOf_11 τ (nI p) (some 0) F (nI (met ||| owS τ now)) (nI (diff (owS τ now) met)) (nI (j + 1) + 1) else some (nI (j + 1)) := by
    intro F j met now hj B hn
    have ol := owS_lt ho now
    rw [lX5_ringOf_11.eq_2, ho.2.2.1, nI_1, if_neg (nI_nlt (by omega) (by omega)), mowedBy_eq ho B.2.1, has_eq (by omega) (by omega), obind_some, ← bfs_hit B hn]
    simp only [b2i_0, plet_eq, q_not, q_or]
  rcases first_cases (rgF τ p) (tn τ) with ha | ⟨d, hd, h1, ha⟩
  · refine ⟨0, by decide, ?_, ?_⟩
    · refine whF (fun F (a : Int32) v => lX3_smallestRing_6 σ (pR σ 0 8) (nI p) (some 0) F a (v + 1)) (n := tn τ) (by omega) (fun j => nI (rchN τ p j)) _ (fun F => ?_) (fun F j hj => ?_)
      · show lX3_smallestRing_6 σ _ _ _ (F + 1) _ _ = _
        rw [lX3_smallestRing_6.eq_2, hV h, hPn h, if_pos rfl, nI_1, if_pos (nI_lt (by omega) (by omega))]
        rfl
      · show lX3_smallestRing_6 σ _ _ _ (F + 1) _ _ = _
        rw [xs F j hj, if_pos (rgF_0 (ha j hj))]
    · refine whP (fun F (a : Nat × Nat) v => lX5_ringOf_11 τ (nI p) (some 0) F (nI a.1) (nI a.2) (v + 1)) (n := tn τ) (by omega) (fun j a => bfs τ p j a.1 a.2) (fun o => o = some (nI 0)) (2 ^ p, 2 ^ p) (bfs_0 ho hp) (fun F a hI => ?_) (fun F a j hj hI => Or.inl ⟨(a.1 ||| owS τ a.2, diff (owS τ a.2) a.1), ?_, bfs_next ho hI⟩)
      · show lX5_ringOf_11 τ _ _ (F + 1) _ _ _ = _
        rw [lX5_ringOf_11.eq_2, ho.2.2.1, nI_1, if_pos (nI_lt (by omega) (by omega))]
        rfl
      · show lX5_ringOf_11 τ _ _ (F + 1) _ _ _ = _
        rw [ms F j _ _ hj hI (fun e he => ha e (by omega)), if_pos (rgF_0 (ha j hj))]
  · refine ⟨d + 1, by omega, ?_, ?_⟩
    · refine whF (fun F (a : Int32) v => lX3_smallestRing_6 σ (pR σ 0 8) (nI p) (some 0) F a (v + 1)) (n := d) (by omega) (fun j => nI (rchN τ p j)) _ (fun F => ?_) (fun F j hj => ?_)
      · show lX3_smallestRing_6 σ _ _ _ (F + 1) _ _ = _
        rw [xs F d hd, if_neg (by rw [rgF_1 h1]; decide)]
      · show lX3_smallestRing_6 σ _ _ _ (F + 1) _ _ = _
        rw [xs F j (by omega), if_pos (rgF_0 (ha j hj))]
    · refine whP (fun F (a : Nat × Nat) v => lX5_ringOf_11 τ (nI p) (some 0) F (nI a.1) (nI a.2) (v + 1)) (n := d) (by omega) (fun j a => bfs τ p j a.1 a.2) (fun o => o = some (nI (d + 1))) (2 ^ p, 2 ^ p) (bfs_0 ho hp) (fun F a hI => ?_) (fun F a j hj hI => Or.inl ⟨(a.1 ||| owS τ a.2, diff (owS τ a.2) a.1), ?_, bfs_next ho hI⟩)
      · show lX5_ringOf_11 τ _ _ (F + 1) _ _ _ = _
        rw [ms F d _ _ hd hI ha, if_neg (by rw [rgF_1 h1]; decide)]
      · show lX5_ringOf_11 τ _ _ (F + 1) _ _ _ = _
        rw [ms F j _ _ (by omega) hI (fun e he => ha e (by omega)), if_pos (rgF_0 (ha j hj))]
def lstN (g : Nat → Nat) : Nat → Nat
  | 0 => 0
  | n + 1 => if g n = 0 then lstN g n else if lstN g n = 0 then g n else min (g n) (lstN g n)
theorem lstN_s (g : Nat → Nat) (n : Nat) : lstN g (n + 1) = if g n = 0 then lstN g n else if lstN g n = 0 then g n else min (g n) (lstN g n) := rfl
theorem lstN_le {g : Nat → Nat} : ∀ n, (∀ i, i < n → g i ≤ 6) → lstN g n ≤ 6
  | 0, _ => by simp [lstN]
  | n + 1, h => by
    have hi := lstN_le n (fun i hi => h i (by omega))
    have hg := h n (by omega)
    rw [lstN_s]
    split
    · exact hi
    · split
      · exact hg
      · omega
theorem o_rings : op_rings RR := by
  intro σ τ h
  have ho := h.2.2.2.2.1
  have o1 := hN6 h
  have hg : ∀ p, ∃ r, p < tn τ → r ≤ 6 ∧ fX3_smallestRing σ (pR σ 0 8) (nI p) = some (nI r) ∧ fX5_ringOf τ (nI p) = some (nI r) := fun p => by
    by_cases q : p < tn τ
    · obtain ⟨r, h1⟩ := ring_both h q
      exact ⟨r, fun _ => h1⟩
    · exact ⟨0, fun z => absurd z q⟩
  obtain ⟨g, hg⟩ := Classical.axiomOfChoice hg
  unfold fX4_rings fX5_rings
  refine ⟨nI (bset (fun p => decide (¬ g p = 0)) (tn τ)), sI σ 0 9 (nI (lstN g (tn τ))), sI τ 0 2 (nI (lstN g (tn τ))), ?_, ?_, RR_told h _⟩
  · refine whF (fun F (a : Int32 × Int32) v => lX4_rings_6 σ _ F a.1 a.2 v) (n := tn τ) (by omega) (fun j => (nI (bset (fun p => decide (¬ g p = 0)) j), nI (lstN g j))) _ (fun F => ?_) (fun F j hj => ?_)
    · show lX4_rings_6 σ _ (F + 1) _ _ _ = _
      rw [lX4_rings_6.eq_2, hV h, hPn h, if_pos rfl, if_pos (nI_le (Nat.le_refl _) (by omega))]
      rfl
    · show lX4_rings_6 σ _ (F + 1) _ _ _ = _
      obtain ⟨g1, g2, g3⟩ := hg j hj
      have ll := lstN_le (g := g) j (fun i hi => (hg i (by omega)).1)
      rw [lX4_rings_6.eq_2, hV h, hPn h, if_pos rfl, if_neg (nI_nge (by omega) (by omega)), g2, obind_some, lstN_s]
      simp only [plet_eq, nI_1, nI_lit (show lstN g j < 2 ^ 31 by omega) (show 0 < 2 ^ 31 by decide) (show (0 : Int32) = nI 0 from rfl)]
      by_cases q : g j = 0
      · rw [q, if_pos (show nI 0 ≤ 0 by decide), bset_f (f := fun p => decide (¬ g p = 0)) (by simp [q]), if_pos rfl]
      · rw [if_neg (nI_n0 (by omega) (by omega)), bset_t (f := fun p => decide (¬ g p = 0)) (by omega) (by simp [q]), if_neg q]
        by_cases q2 : lstN g j = 0
        · rw [if_pos q2, if_pos q2]
        · rw [if_neg q2, if_neg q2]
          by_cases q3 : g j < lstN g j
          · rw [if_pos (nI_lt q3 (by omega)), Nat.min_eq_left (by omega)]
          · rw [if_neg (nI_nlt (by omega) (by omega)), Nat.min_eq_right (by omega)]
  · refine whF (fun F (a : Int32 × Int32) v => lX5_rings_6 τ _ F a.1 a.2 v) (n := tn τ) (by omega) (fun j => (nI (bset (fun p => decide (¬ g p = 0)) j), nI (lstN g j))) _ (fun F => ?_) (fun F j hj => ?_)
    · show lX5_rings_6 τ _ (F + 1) _ _ _ = _
      rw [lX5_rings_6.eq_2, ho.2.2.1, if_pos (nI_le (Nat.le_refl _) (by omega))]
      rfl
    · show lX5_rings_6 τ _ (F + 1) _ _ _ = _
      obtain ⟨g1, g2, g3⟩ := hg j hj
      have ll := lstN_le (g := g) j (fun i hi => (hg i (by omega)).1)
      rw [lX5_rings_6.eq_2, ho.2.2.1, if_neg (nI_nge (by omega) (by omega)), g3, obind_some, lstN_s]
      simp only [plet_eq, nI_1, nI_lit (show lstN g j < 2 ^ 31 by omega) (show 0 < 2 ^ 31 by decide) (show (0 : Int32) = nI 0 from rfl)]
      by_cases q : g j = 0
      · rw [q, if_pos (show nI 0 ≤ 0 by decide), if_pos (show nI 0 ≤ 0 by decide), bset_f (f := fun p => decide (¬ g p = 0)) (by simp [q]), if_pos rfl, or_0]
      · rw [if_neg (nI_n0 (by omega) (by omega)), if_neg (nI_n0 (by omega) (by omega)), bset_t (f := fun p => decide (¬ g p = 0)) (by omega) (by simp [q]), if_neg q]
        by_cases q2 : lstN g j = 0
        · rw [if_pos q2, if_pos q2]
        · rw [if_neg q2, if_neg q2]
          by_cases q3 : lstN g j ≤ g j
          · rw [if_pos (nI_le q3 (by omega)), Nat.min_eq_right (by omega)]
          · rw [if_neg (nI_nge (by omega) (by omega)), Nat.min_eq_left (by omega)]
