/-! PURE: the reference lays its rounds -/
theorem i32_ss (a b c d : Int32) : (a - b) + (c - d) = (a + c) - (b + d) := by
  rw [Int32.sub_eq_add_neg, Int32.sub_eq_add_neg c d, Int32.sub_eq_add_neg (a + c), Int32.neg_add, Int32.sub_eq_add_neg (-b)]
  ac_rfl
theorem lg_z (x : Int64) : (lg_cmp x 0 = 0) = (x = 0) := by
  unfold lg_cmp
  by_cases h : x > 0
  · rw [if_pos h]
    have : ¬ x = 0 := fun z => by rw [z] at h; exact Int64.lt_irrefl h
    simp [this]
  · rw [if_neg h]
    by_cases e : x = 0
    · rw [if_pos e]; simp [e]
    · rw [if_neg e]; simp [e]
theorem lg_0 {w : Nat} (h : w < 2 ^ 63) : (lg_cmp (lN w) 0 = 0) = (w = 0) := by
  rw [lg_z, show (0 : Int64) = lN 0 from rfl, pk_lEQ h (by decide)]
theorem diff_zero {v m : Nat} : (diff v m = 0) ↔ (v &&& m = v) := by
  constructor
  · intro h
    apply Nat.eq_of_testBit_eq
    intro i
    have := congrArg (fun x => Nat.testBit x i) h
    simp only [diff_bit, Nat.zero_testBit] at this
    rw [Nat.testBit_and]
    revert this
    cases v.testBit i <;> cases m.testBit i <;> simp
  · intro h
    apply Nat.eq_of_testBit_eq
    intro i
    have := congrArg (fun x => Nat.testBit x i) h
    simp only [Nat.testBit_and] at this
    rw [diff_bit, Nat.zero_testBit]
    revert this
    cases v.testBit i <;> cases m.testBit i <;> simp
def FB (τ τ' : pS) : Prop := (∀ e i, e ≠ 12 → e ≠ 14 → pI τ' e i = pI τ e i) ∧ (∀ e i, e ≠ 13 → pL τ' e i = pL τ e i) ∧ ∀ e i, pR τ' e i = pR τ e i
theorem FB_rf {τ : pS} : FB τ τ := ⟨fun _ _ _ _ => rfl, fun _ _ _ => rfl, fun _ _ => rfl⟩
theorem FB_tr {a b c : pS} (h1 : FB a b) (h2 : FB b c) : FB a c := ⟨fun e i q1 q2 => (h2.1 e i q1 q2).trans (h1.1 e i q1 q2), fun e i q => (h2.2.1 e i q).trans (h1.2.1 e i q), fun e i => (h2.2.2 e i).trans (h1.2.2 e i)⟩
theorem FB_only {τ τ' : pS} {e : Nat} (h : only τ τ' e) (he : e = 12 ∨ e = 14) : FB τ τ' := ⟨fun e' i q1 q2 => h.1 e' i (by omega), fun e' i _ => h.2.1 e' i, h.2.2⟩
theorem FB_put {τ : pS} {i j : Nat} {x : Int32} {y : Int64} : FB τ (sL (sI τ 12 i x) 13 j y) := ⟨fun e k q1 q2 => by rw [pI_sL, pI_sI_ne q1], fun e k q => by rw [pL_sL, if_neg (fun z => q z.1), pL_sI], fun e k => by rw [pR_sL, pR_sI]⟩
theorem FB_FM {τ τ' : pS} (h : FB τ τ') : FM τ τ' := ⟨fun e i q1 q2 q3 q4 q5 q6 q7 q8 => h.1 e i q6 q7, fun i _ => h.1 0 i (by decide) (by decide), h.2.1 0 3 (by decide), h.2.1 0 4 (by decide)⟩
theorem FB_LM {τ τ' : pS} (h : FB τ τ') : LM τ τ' := (FM_LY (FB_FM h)).2.2
theorem FB_Ro {τ τ' : pS} (ho : Ro τ) (h : FB τ τ') : Ro τ' := Ro_frame ho (FB_LM h)
theorem LM_dpO {τ τ' : pS} (h : LM τ τ') : dpO τ' = dpO τ := by
  have e : td τ' = td τ := LM_td h
  unfold dpO opN
  rw [e]
  refine Prod.ext (funext fun s => LM_fit h s _) (Prod.ext (funext fun s => LM_rate h s _) (funext fun s => ?_))
  show 10000 * oc (td τ) s + 12 * rateT τ' _ _ = 10000 * oc (td τ) s + 12 * rateT τ _ _
  rw [LM_rate h]
theorem LM_mayf {τ τ' : pS} (h : LM τ τ') : mayS τ' = mayS τ := funext (LM_may h)
theorem allD_eq {τ : pS} (ho : Ro τ) : fX5_allDebts τ = some (nI (2 ^ td τ - 1)) := by
  have := ho.2.1
  have := Nat.two_pow_pos (td τ)
  unfold fX5_allDebts
  rw [ho.2.2.2.1, q_one (by omega), show (1 : Int32) = nI 1 from rfl, pk_sub (by omega)]
def mayB (τ : pS) (t v : Nat) : Bool := decide (v &&& mayS τ t = v) && fitT τ v (td τ)
theorem layMay_eq {τ : pS} (ho : Ro τ) {t : Nat} (ht : t < 12) : ∃ τ', fX5_layMay τ (nI t) = some ((), τ') ∧ only τ τ' 14 ∧ ∀ v, v < 2 ^ td τ → pI τ' 14 v = b2i (mayB τ t v) := by
  have o2 := ho.2.1
  have hp8 := pow8 o2
  have p0 := Nat.two_pow_pos (td τ)
  unfold fX5_layMay
  rw [payable_eq ho ht, obind_some]
  obtain ⟨τ', h1, h2, h3⟩ := whS (fun F s v => lX5_layMay_8 (nI (mayS τ t)) (fun σ10 => some ((), σ10)) F v s) (n := 2 ^ td τ) (by omega) (fun j s => only τ s 14 ∧ ∀ d, d < j → pI s 14 d = b2i (mayB τ t d)) (fun σ10 => some ((), σ10)) τ ⟨only_rf, fun d hd => absurd hd (Nat.not_lt_zero d)⟩ (fun F s hs => by
      have fb := FB_only hs.1 (Or.inr rfl)
      have os := FB_Ro ho fb
      have ed : td s = td τ := LM_td (FB_LM fb)
      show lX5_layMay_8 _ _ (F + 1) _ s = _
      rw [lX5_layMay_8.eq_2, allD_eq os, ed, obind_some, if_pos (nI_lt (by omega) (by omega))]) (fun F s j hj hs => ⟨sI s 14 j (b2i (mayB τ t j)), by
      have fb := FB_only hs.1 (Or.inr rfl)
      have os := FB_Ro ho fb
      have ed : td s = td τ := LM_td (FB_LM fb)
      have dl := diff_le j (mayS τ t)
      show lX5_layMay_8 _ _ (F + 1) _ s = _
      rw [lX5_layMay_8.eq_2, allD_eq os, ed, obind_some, if_neg (nI_nlt (by omega) (by omega)), mfits_eq os (show j < 2 ^ 31 by omega), ed, LM_fit (FB_LM fb)]
      simp only [obind_some, plet_eq, nI_1, pin_lit (show j < 256 by omega) (by decide), if_true, nI_clamp (show j < 2 ^ 31 by omega), nar0, nar1, b2i_0, q_not, nI_lit (show diff j (mayS τ t) < 2 ^ 31 by omega) (show 0 < 2 ^ 31 by decide) (show (0 : Int32) = nI 0 from rfl), diff_zero]
      unfold mayB
      by_cases q : j &&& mayS τ t = j
      · rw [if_pos q, decide_eq_true q]
        cases fitT τ j (td τ) <;> rfl
      · rw [if_neg q, decide_eq_false q]
        rfl, only_tr hs.1 only_s, fun d hd => by
        by_cases q : d = j
        · rw [q, pI_sI_eq]
        · rw [pI_sI_nj q]; exact hs.2 d (by omega)⟩)
  exact ⟨τ', h1, h2, h3⟩
/-! gains -/
def gA (τ : pS) (v : Nat) : Nat → Nat
  | 0 => 0
  | n + 1 => gA τ v n + if v.testBit n then 10000 - vN τ n else 0
theorem gA_s (τ : pS) (v n : Nat) : gA τ v (n + 1) = gA τ v n + if v.testBit n then 10000 - vN τ n else 0 := rfl
def awN (τ : pS) (s : Nat) : Nat → Nat
  | 0 => 0
  | n + 1 => awN τ s n + if s.testBit n then 0 else 10000 - vN τ n
theorem awN_s (τ : pS) (s n : Nat) : awN τ s (n + 1) = awN τ s n + if s.testBit n then 0 else 10000 - vN τ n := rfl
theorem gA_le (τ : pS) (v : Nat) : ∀ n, gA τ v n ≤ 10000 * n
  | 0 => Nat.le_refl _
  | n + 1 => by
    have := gA_le τ v n
    rw [gA_s]
    split <;> omega
theorem awN_le (τ : pS) (v : Nat) : ∀ n, awN τ v n ≤ 10000 * n
  | 0 => Nat.le_refl _
  | n + 1 => by
    have := awN_le τ v n
    rw [awN_s]
    split <;> omega
theorem aw_split (τ : pS) {s v : Nat} (h : v &&& s = 0) : ∀ n, gA τ v n + awN τ (s ||| v) n = awN τ s n
  | 0 => rfl
  | n + 1 => by
    rw [gA_s, awN_s, awN_s, ← aw_split τ h n, Nat.testBit_or]
    have e := congrArg (fun x => Nat.testBit x n) h
    simp only [Nat.testBit_and, Nat.zero_testBit] at e
    revert e
    cases s.testBit n <;> cases v.testBit n <;> simp <;> omega
theorem LM_gA {τ τ' : pS} (h : LM τ τ') (v : Nat) : ∀ n, gA τ' v n = gA τ v n
  | 0 => rfl
  | n + 1 => by rw [gA_s, gA_s, LM_gA h v n, LM_vN h]
theorem LM_aw {τ τ' : pS} (h : LM τ τ') (v : Nat) : ∀ n, awN τ' v n = awN τ v n
  | 0 => rfl
  | n + 1 => by rw [awN_s, awN_s, LM_aw h v n, LM_vN h]
theorem costN {τ : pS} (ho : Ro τ) {d : Nat} (hd : d < td τ) (t : Nat) : costI τ d (nI t) = nI (vN τ d + t * iN τ d) := by
  obtain ⟨-, -, ⟨c1, c2, c3⟩, ⟨d1, d2⟩, -⟩ := dN_ok ho hd
  unfold costI
  rw [c1, d1, pk_mul, nI_add]
theorem gain_eq {τ : pS} (ho : Ro τ) {v : Nat} (hv : v < 2 ^ 31) (t : Nat) : fX5_gain τ (nI v) (nI t) = some (nI (gA τ v (td τ)) - nI (t * rateT τ v (td τ))) := by
  have o2 := ho.2.1
  unfold fX5_gain
  have e0 : (0 : Int32) = nI (gA τ v 0) - nI (t * rateT τ v 0) := by
    rw [show gA τ v 0 = 0 from rfl, show rateT τ v 0 = 0 from rfl, Nat.mul_zero, Int32.sub_self]
  refine (congrArg (fun z => lX5_gain_5 τ (nI v) (nI t) (fun y8 => some y8) FU z (nI 0)) e0).trans ?_
  refine whF (fun F (a : Int32) x => lX5_gain_5 τ (nI v) (nI t) (fun y8 => some y8) F a x) (n := td τ) (by omega) (fun j => nI (gA τ v j) - nI (t * rateT τ v j)) _ (fun F => ?_) (fun F j hj => ?_)
  · show lX5_gain_5 τ _ _ _ (F + 1) _ _ = _
    rw [lX5_gain_5.eq_2, ho.2.2.2.1, if_pos (nI_le (Nat.le_refl _) (by omega))]
  · show lX5_gain_5 τ _ _ _ (F + 1) _ _ = _
    have hc := (dN_ok ho hj).2.2.1.2.2
    rw [lX5_gain_5.eq_2, ho.2.2.2.1, if_neg (nI_nge (by omega) (by omega)), has_eq hv (by omega), costOf_eq (by omega), costN ho hj]
    simp only [obind_some, plet_eq, nI_1, b2i_0]
    rw [gA_s, rate_s]
    cases q : v.testBit j
    · simp only [if_true, Bool.false_eq_true, if_false, Nat.add_zero]
      rw [show ∀ x : Int32, x + 0 = x from fun x => Int32.add_zero x]
    · simp only [Bool.true_eq_false, if_false, if_true]
      have e : (10000 : Int32) - nI (vN τ j + t * iN τ j) = nI (10000 - vN τ j) - nI (t * iN τ j) := by
        rw [show (10000 : Int32) = nI 10000 from rfl, ← pk_sub (show vN τ j ≤ 10000 by omega), ← nI_add, Int32.sub_eq_add_neg, Int32.neg_add, Int32.sub_eq_add_neg (nI 10000), Int32.sub_eq_add_neg (-nI (vN τ j)), Int32.sub_eq_add_neg (nI 10000 + -nI (vN τ j)), Int32.add_assoc]
      rw [e, i32_ss, nI_add, nI_add, Nat.mul_add]
/-! the best of all parts, and in how many ways -/
def fcN (ok : Nat → Bool) (c wn : Nat → Nat) (cur v : Nat) : Nat := if ok v && decide (c v = cur) then wn v else 0
def INV (ok : Nat → Bool) (c wn : Nat → Nat) (N n cur w : Nat) : Prop := cur < 2 ^ 29 ∧ (∀ v, n ≤ v → v < N → ok v = true → w ≠ 0 ∧ cur ≤ c v) ∧ (w ≠ 0 → ∃ v, v < N ∧ ok v = true ∧ c v = cur) ∧ w + sumN (fcN ok c wn cur) n = sumN (fcN ok c wn cur) N
theorem INV_skip {ok : Nat → Bool} {c wn : Nat → Nat} {N n cur w : Nat} (h : INV ok c wn N (n + 1) cur w) (hn : ok n = false) : INV ok c wn N n cur w := by
  obtain ⟨h0, h1, h2, h3⟩ := h
  refine ⟨h0, fun v v1 v2 v3 => ?_, h2, ?_⟩
  · by_cases e : v = n
    · rw [e, hn] at v3; exact absurd v3 (by decide)
    · exact h1 v (by omega) v2 v3
  · rw [← h3, sumN_s]
    unfold fcN
    rw [hn]
    rfl
theorem INV_new {ok : Nat → Bool} {c wn : Nat → Nat} {N n cur w : Nat} (h : INV ok c wn N (n + 1) cur w) (hN : n < N) (hn : ok n = true) (hc : c n < 2 ^ 29) (hw : 0 < wn n) (hb : w = 0 ∨ c n < cur) : INV ok c wn N n (c n) (wn n) := by
  obtain ⟨h0, h1, h2, h3⟩ := h
  have low : ∀ v, n + 1 ≤ v → v < N → ok v = true → c n < c v := fun v v1 v2 v3 => by
    have := h1 v v1 v2 v3
    rcases hb with hb | hb
    · exact absurd hb this.1
    · omega
  refine ⟨hc, fun v v1 v2 v3 => ⟨by omega, ?_⟩, fun _ => ⟨n, hN, hn, rfl⟩, ?_⟩
  · by_cases e : v = n
    · rw [e]; exact Nat.le_refl _
    · exact Nat.le_of_lt (low v (by omega) v2 v3)
  · rw [← sumN_to (f := fcN ok c wn (c n)) (n := n + 1) (N := N) (by omega) (fun u u1 u2 => ?_), sumN_s]
    · have : fcN ok c wn (c n) n = wn n := by unfold fcN; rw [hn, decide_eq_true rfl]; rfl
      rw [this]; omega
    · unfold fcN
      cases q : ok u
      · rfl
      · have := low u u1 u2 q
        rw [decide_eq_false (by omega)]; rfl
theorem INV_same {ok : Nat → Bool} {c wn : Nat → Nat} {N n cur w : Nat} (h : INV ok c wn N (n + 1) cur w) (hn : ok n = true) (hw : w ≠ 0) (hb : c n = cur) : INV ok c wn N n cur (w + wn n) := by
  obtain ⟨h0, h1, h2, h3⟩ := h
  refine ⟨h0, fun v v1 v2 v3 => ?_, fun _ => h2 hw, ?_⟩
  · by_cases e : v = n
    · rw [e]; omega
    · have := h1 v (by omega) v2 v3
      omega
  · rw [← h3, sumN_s]
    have : fcN ok c wn cur n = wn n := by unfold fcN; rw [hn, decide_eq_true hb]; rfl
    omega
theorem INV_more {ok : Nat → Bool} {c wn : Nat → Nat} {N n cur w : Nat} (h : INV ok c wn N (n + 1) cur w) (hw : w ≠ 0) (hb : cur < c n) : INV ok c wn N n cur w := by
  obtain ⟨h0, h1, h2, h3⟩ := h
  refine ⟨h0, fun v v1 v2 v3 => ?_, h2, ?_⟩
  · by_cases e : v = n
    · rw [e]; omega
    · exact h1 v (by omega) v2 v3
  · rw [← h3, sumN_s]
    have : fcN ok c wn cur n = 0 := by unfold fcN; rw [decide_eq_false (by omega), Bool.and_false]; rfl
    omega
theorem INV_w {ok : Nat → Bool} {c wn : Nat → Nat} {N n cur w : Nat} (h : INV ok c wn N n cur w) (hN : N ≤ 256) (hw : ∀ v, wn v < 2 ^ 40) : w < 2 ^ 60 := by
  have b : ∀ n, sumN (fcN ok c wn cur) n ≤ n * 2 ^ 40 := fun n => by
    induction n with
    | zero => exact Nat.zero_le _
    | succ n ih =>
      rw [sumN_s]
      have : fcN ok c wn cur n ≤ 2 ^ 40 := by
        unfold fcN
        split
        · exact Nat.le_of_lt (hw n)
        · omega
      omega
  have := b N
  have := h.2.2.2
  omega
