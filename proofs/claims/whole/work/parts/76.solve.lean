/-! PURE: the class solves -/
theorem cnt_tail {f : Nat → Bool} {n : Nat} : ∀ q, (∀ u, n ≤ u → f u = false) → cnt f (n + q) = cnt f n
  | 0, _ => rfl
  | q + 1, h => by
    rw [← Nat.add_assoc, cnt_s, cnt_tail q h, h (n + q) (by omega)]
    rfl
def opN (τ : pS) (s : Nat) : Nat := diff (2 ^ td τ - 1) s
def dpO (τ : pS) : dpS := (fun s => fitT τ s (td τ), fun s => rateT τ s (td τ), fun s => 10000 * oc (td τ) s + 12 * rateT τ (opN τ s) (td τ))
theorem op_bit (τ : pS) (s i : Nat) : (opN τ s).testBit i = (decide (i < td τ) && !s.testBit i) := by unfold opN; rw [diff_bit, Nat.testBit_two_pow_sub_one]
theorem op_lt (τ : pS) (s : Nat) : opN τ s < 2 ^ td τ := by
  have := diff_le (2 ^ td τ - 1) s
  have := Nat.two_pow_pos (td τ)
  unfold opN
  omega
theorem op_cnt (τ : pS) (s : Nat) : cnt (opN τ s).testBit (td τ) = oc (td τ) s := cnt_congr _ (fun i hi => by rw [op_bit, decide_eq_true hi, Bool.true_and])
theorem op_pop {τ : pS} (h : td τ ≤ 8) (s : Nat) : pop (opN τ s) = oc (td τ) s := by
  unfold pop
  have e := cnt_tail (f := (opN τ s).testBit) (n := td τ) (12 - td τ) (fun u hu => by rw [op_bit, decide_eq_false (by omega)]; rfl)
  rw [show td τ + (12 - td τ) = 12 by omega] at e
  rw [e, op_cnt]
theorem rate_0 (τ : pS) : ∀ n, rateT τ 0 n = 0
  | 0 => rfl
  | n + 1 => by unfold rateT; rw [rate_0 τ n, Nat.zero_testBit]; rfl
theorem rate_s (τ : pS) (s n : Nat) : rateT τ s (n + 1) = rateT τ s n + if s.testBit n then iN τ n else 0 := rfl
theorem dpO_gd (τ : pS) : gdP (dpO τ) := ⟨by show fitT τ 0 (td τ) = true; unfold fitT; simp, rate_0 τ _⟩
theorem rate_le {τ : pS} (ho : Ro τ) (v : Nat) : ∀ n, n ≤ td τ → rateT τ v n ≤ 9 * cnt v.testBit n
  | 0, _ => Nat.zero_le _
  | n + 1, h => by
    have ih := rate_le ho v n (by omega)
    have hi := (dN_ok ho (show n < td τ by omega)).2.2.2.1.2
    rw [rate_s, cnt_s]
    cases v.testBit n <;> simp <;> omega
theorem dpO_R {τ : pS} (ho : Ro τ) (v : Nat) : (dpO τ).2.1 v ≤ 9 * cnt v.testBit (td τ) := rate_le ho v _ (Nat.le_refl _)
theorem dpO_T {τ : pS} (ho : Ro τ) (s : Nat) : ∃ i, (dpO τ).2.2 s = 10000 * oc (td τ) s + i ∧ i ≤ 108 * oc (td τ) s := by
  have h := rate_le ho (opN τ s) _ (Nat.le_refl _)
  rw [op_cnt] at h
  exact ⟨12 * rateT τ (opN τ s) (td τ), rfl, by omega⟩
theorem dpO_lt {τ : pS} (ho : Ro τ) (s : Nat) : (dpO τ).2.2 s < 100000 := by
  obtain ⟨i, h1, h2⟩ := dpO_T ho s
  have := oc_le (td τ) s
  have := ho.2.1
  omega
theorem LoO_lt {τ : pS} (ho : Ro τ) (mk : Nat → Nat) (j t s : Nat) : Lo (dpO τ) mk j t s < 100000 := Nat.lt_of_le_of_lt (Lo_T (dpO_gd τ) mk j t s) (dpO_lt ho s)
theorem rateO_lt {τ : pS} (ho : Ro τ) (v : Nat) : rateT τ v (td τ) ≤ 72 := by
  have := rate_le ho v _ (Nat.le_refl _)
  have := cnt_le v.testBit (td τ)
  have := ho.2.1
  omega
def payX (σ : pS) (mk : Nat → Nat) : Prop := ∀ t, t < 12 → pI σ 14 t = nI (mk t)
def LTX (σ τ : pS) (mk : Nat → Nat) (a : Nat) : Prop := ∀ t, a ≤ t → t ≤ 12 → ∀ s, s < 2 ^ td τ → pI σ (33 + t) s = nI (Lo (dpO τ) mk (12 - t) t s)
theorem or_lt {n a b : Nat} (ha : a < 2 ^ n) (hb : b < 2 ^ n) : a ||| b < 2 ^ n := Nat.or_lt_two_pow ha hb
theorem fitX {σ τ : pS} (h : RR σ τ) {v : Nat} (hv : v < 2 ^ td τ) : pI σ 12 v = b2i ((dpO τ).1 v) := (h.2.2.2.2.2.2.2.2 v hv).1
theorem rateX {σ τ : pS} (h : RR σ τ) {v : Nat} (hv : v < 2 ^ td τ) : pI σ 13 v = nI ((dpO τ).2.1 v) := (h.2.2.2.2.2.2.2.2 v hv).2
theorem allX {σ τ : pS} (h : RR σ τ) : pI σ 3 1 = nI (2 ^ td τ - 1) := h.2.2.2.2.2.2.2.1
theorem debtsX {σ τ : pS} (h : RR σ τ) : pI σ 3 0 = nI (td τ) := h.2.2.2.2.2.2.1
theorem lossBy_eq {σ τ : pS} (h : RR σ τ) {nx : Nat → Nat} {t s v : Nat} (ht : t < 12) (hs : s < 2 ^ td τ) (hv : v < 2 ^ td τ) (hn : ∀ s, s < 2 ^ td τ → pI σ (33 + (t + 1)) s = nI (nx s)) : fX2_lossBy σ (nI t) (nI s) (nI v) = some (nI (dpc (dpO τ) t nx s v)) := by
  have o2 := hD8 h
  have hp := pow8 o2
  have ho := or_lt hs hv
  unfold fX2_lossBy
  rw [nI_1, q_or, pin_lit (show v < 256 by omega) (by decide), pin_lit (show t + 1 < 13 by omega) (by decide), pin_lit (show s ||| v < 256 by omega) (by decide), nI_clamp (show v < 2 ^ 31 by omega), nI_clamp (show t + 1 < 2 ^ 31 by omega), nI_clamp (show s ||| v < 2 ^ 31 by omega), rateX h hv, hn _ ho, pk_mul, nI_add]
  rfl
theorem min_lt {a b : Nat} (ha : a < 2 ^ 31) (hb : b < 2 ^ 31) : (if nI b < nI a then nI b else nI a) = nI (min a b) := by
  by_cases z : b < a
  · rw [if_pos (nI_lt z ha), Nat.min_eq_right (by omega)]
  · rw [if_neg (nI_nlt (by omega) hb), Nat.min_eq_left (by omega)]
theorem minSt_lt {g : Nat → Bool} {c : Nat → Nat} {v a N : Nat} (h : a < N) : minSt g c v a < N := by
  unfold minSt
  split
  · omega
  · exact h
theorem lossFrom_eq {σ τ : pS} (h : RR σ τ) {nx : Nat → Nat} (hx : ∀ s, nx s < 100000) {t s m : Nat} (ht : t < 12) (hs : s < 2 ^ td τ) (hm : m < 2 ^ td τ) (e14 : pI σ 14 t = nI m) (hn : ∀ s, s < 2 ^ td τ → pI σ (33 + (t + 1)) s = nI (nx s)) : fX2_lossFrom σ (nI t) (nI s) = some (nI (dfold (minSt (dpO τ).1 (dpc (dpO τ) t nx s)) (diff m s) (diff m s) (nx s))) := by
  have o2 := hD8 h
  have hp := pow8 o2
  have dl := diff_le m s
  unfold fX2_lossFrom
  rw [pin_lit ht (by decide), nI_clamp (show t < 2 ^ 31 by omega), e14, q_not, nI_1, pin_lit (show t + 1 < 13 by omega) (by decide), pin_lit (show s < 256 by omega) (by decide), nI_clamp (show t + 1 < 2 ^ 31 by omega), nI_clamp (show s < 2 ^ 31 by omega), hn s hs]
  simp only [if_true, plet_eq]
  refine whFold (fun F (a : Nat) v => lX2_lossFrom_26 σ (nI t) (nI s) (nI (diff m s)) (fun y3 => some y3) F (nI a) v) (m := diff m s) (by omega) (fun a => a < 100000) (minSt (dpO τ).1 (dpc (dpO τ) t nx s)) (fun a => some (nI a)) (fun F a _ => ?_) (fun F a v h0 hv hl ha => ⟨?_, minSt_lt ha⟩) _ (hx s)
  · show lX2_lossFrom_26 σ _ _ _ _ (F + 1) _ _ = _
    rw [lX2_lossFrom_26.eq_2, if_pos (by decide)]
  · show lX2_lossFrom_26 σ _ _ _ _ (F + 1) _ _ = lX2_lossFrom_26 σ _ _ _ _ F _ _
    have hv' : v < 2 ^ td τ := by omega
    have cl : dpc (dpO τ) t nx s v < 2 ^ 30 := by
      have r := rateO_lt h.2.2.2.2.1 v
      have r2 : t * (dpO τ).2.1 v ≤ 12 * 72 := Nat.mul_le_mul (by omega) r
      have := hx (s ||| v)
      unfold dpc
      omega
    rw [lX2_lossFrom_26.eq_2, if_neg (nI_n0 h0 (by omega)), pin_lit (show v < 256 by omega) (by decide), nI_clamp (show v < 2 ^ 31 by omega), fitX h hv', lossBy_eq h ht hs hv' hn]
    simp only [if_true, plet_eq, obind_some, sub_pred h0, b2i_0, min_lt (show a < 2 ^ 31 by omega) (show dpc (dpO τ) t nx s v < 2 ^ 31 by omega)]
    unfold minSt
    cases (dpO τ).1 v
    · simp
    · simp
theorem whDn {ρ : Type} (L : Nat → pS → Int32 → Option ρ) (I : Nat → pS → Prop) (k : pS → Option ρ) (he : ∀ F a, I 0 a → L (F + 1) a (-1) = k a) (hs : ∀ F a j, I (j + 1) a → ∃ a', L (F + 1) a (nI j) = L F a' (nI j + (-1)) ∧ I j a') : ∀ (n F : Nat) (a : pS), n + 1 < F → I (n + 1) a → ∃ a', L F a (nI n) = k a' ∧ I 0 a' := by
  intro n
  induction n with
  | zero =>
    intro F a hF hI
    obtain ⟨G, rfl⟩ : ∃ G, F = G + 2 := ⟨F - 2, by omega⟩
    obtain ⟨a', h1, h2⟩ := hs (G + 1) a 0 hI
    exact ⟨a', by rw [h1, show nI 0 + (-1) = (-1 : Int32) by decide, he G a' h2], h2⟩
  | succ n ih =>
    intro F a hF hI
    obtain ⟨G, rfl⟩ : ∃ G, F = G + 1 := ⟨F - 1, by omega⟩
    obtain ⟨a', h1, h2⟩ := hs G a (n + 1) hI
    obtain ⟨b, b1, b2⟩ := ih G a' (by omega) h2
    exact ⟨b, by rw [h1, pk_m1, b1], b2⟩
theorem whDN {ρ : Type} (L : Nat → pS → Int32 → Option ρ) (I : Nat → pS → Prop) (k : pS → Option ρ) {n : Nat} (hn : n < 990) (a : pS) (h0 : I (n + 1) a) (he : ∀ F a, I 0 a → L (F + 1) a (-1) = k a) (hs : ∀ F a j, I (j + 1) a → ∃ a', L (F + 1) a (nI j) = L F a' (nI j + (-1)) ∧ I j a') : ∃ a', L FU a (nI n) = k a' ∧ I 0 a' := whDn L I k he hs n FU a (by simp [FU]; omega) h0
def on33 (σ σ' : pS) : Prop := (∀ e i, ¬ (33 ≤ e ∧ e < 46) → pI σ' e i = pI σ e i) ∧ (∀ e i, pL σ' e i = pL σ e i) ∧ ∀ e i, pR σ' e i = pR σ e i
theorem on33_rf {σ : pS} : on33 σ σ := ⟨fun _ _ _ => rfl, fun _ _ => rfl, fun _ _ => rfl⟩
theorem on33_tr {a b c : pS} (h1 : on33 a b) (h2 : on33 b c) : on33 a c := ⟨fun e i he => (h2.1 e i he).trans (h1.1 e i he), fun e i => (h2.2.1 e i).trans (h1.2.1 e i), fun e i => (h2.2.2 e i).trans (h1.2.2 e i)⟩
theorem on33_FX {σ σ' : pS} (hv : 46 ≤ vl σ) (h : on33 σ σ') : FX σ σ' := ⟨fun e i he => h.1 e i (by omega), ⟨h.1 0 9 (by omega), h.1 0 12 (by omega)⟩, ⟨h.1 3 0 (by omega), h.1 3 1 (by omega)⟩, ⟨h.2.1 _ _, h.2.1 _ _⟩, h.2.2 _ _, h.2.2 _ _⟩
theorem on33_only {σ σ' : pS} {e : Nat} (h : only σ σ' e) (he : 33 ≤ e ∧ e < 46) : on33 σ σ' := ⟨fun e' i hn => h.1 e' i (fun z => hn (by omega)), h.2.1, h.2.2⟩
theorem on33_RR {σ σ' τ : pS} (h : RR σ τ) (h3 : on33 σ σ') : RR σ' τ := RR_FX h (on33_FX (vl_ge h.2.2.2.1) h3)
/-- one hour is solved out of the next -/
theorem back1 {σ τ : pS} (h : RR σ τ) {mk : Nat → Nat} (hm : ∀ x, mk x < 2 ^ td τ) (hp : payX σ mk) {t : Nat} (ht : t < 12) (hl : LTX σ τ mk (t + 1)) (k : pS → Option (Unit × pS)) : ∃ σ', lX2_solveBackFrom_8 (nI t) k FU (nI 0) σ = k σ' ∧ only σ σ' (33 + t) ∧ LTX σ' τ mk t := by
  have o2 := hD8 h
  have hp8 := pow8 o2
  have p0 := Nat.two_pow_pos (td τ)
  obtain ⟨σ', h1, h2, h3⟩ := whS (fun F s v => lX2_solveBackFrom_8 (nI t) k F v s) (n := 2 ^ td τ) (by omega) (fun j s => only σ s (33 + t) ∧ ∀ d, d < j → pI s (33 + t) d = nI (Lo (dpO τ) mk (12 - t) t d)) k σ ⟨only_rf, fun d hd => absurd hd (Nat.not_lt_zero d)⟩ (fun F s hs => by
      show lX2_solveBackFrom_8 _ _ (F + 1) _ s = _
      rw [lX2_solveBackFrom_8.eq_2, hs.1.1 3 1 (by omega), allX h, if_pos (nI_lt (by omega) (by omega))]) (fun F s j hj hs => ⟨sI s (33 + t) j (nI (Lo (dpO τ) mk (12 - t) t j)), by
      show lX2_solveBackFrom_8 _ _ (F + 1) _ s = _
      have hR : RR s τ := on33_RR h (on33_only hs.1 (by omega))
      have e := lossFrom_eq hR (nx := Lo (dpO τ) mk (12 - (t + 1)) (t + 1)) (fun s => LoO_lt h.2.2.2.2.1 _ _ _ _) ht hj (hm t) (by rw [hs.1.1 14 t (by omega)]; exact hp t ht) (fun s' hs' => by rw [hs.1.1 _ _ (by omega)]; exact hl (t + 1) (Nat.le_refl _) (by omega) s' hs')
      rw [← Lo_s, show 12 - (t + 1) + 1 = 12 - t by omega] at e
      rw [lX2_solveBackFrom_8.eq_2, hs.1.1 3 1 (by omega), allX h, if_neg (nI_nlt (by omega) (by omega)), pin_lit (show t < 13 by omega) (by decide), pin_lit (show j < 256 by omega) (by decide), e, obind_some, nI_clamp (show t < 2 ^ 31 by omega), nI_clamp (show j < 2 ^ 31 by omega)]
      simp only [if_true, plet_eq, nI_1], only_tr hs.1 only_s, fun d hd => by
        by_cases q : d = j
        · rw [q, pI_sI_eq]
        · rw [pI_sI_nj q]; exact hs.2 d (by omega)⟩)
  refine ⟨σ', h1, h2, fun x x1 x2 s hs => ?_⟩
  by_cases q : x = t
  · rw [q]; exact h3 s hs
  · rw [h2.1 _ _ (by omega)]; exact hl x (by omega) x2 s hs
theorem back_eq {σ τ : pS} (h : RR σ τ) {mk : Nat → Nat} (hm : ∀ x, mk x < 2 ^ td τ) (hp : payX σ mk) {t : Nat} (ht : t < 12) (hl : LTX σ τ mk (t + 1)) : ∃ σ', fX2_solveBackFrom σ (nI t) = some ((), σ') ∧ on33 σ σ' ∧ LTX σ' τ mk 0 ∧ ∀ x, t < x → x ≤ 12 → ∀ i, pI σ' (33 + x) i = pI σ (33 + x) i := by
  unfold fX2_solveBackFrom
  obtain ⟨σ', h1, h2, h3, h4, -⟩ := whDN (fun F s v => lX2_solveBackFrom_2 (fun σ6 => some ((), σ6)) F v s) (fun j s => on33 σ s ∧ LTX s τ mk j ∧ (∀ x, t < x → x ≤ 12 → ∀ i, pI s (33 + x) i = pI σ (33 + x) i) ∧ j ≤ t + 1) (fun σ6 => some ((), σ6)) (n := t) (by omega) σ ⟨on33_rf, hl, fun _ _ _ _ => rfl, Nat.le_refl _⟩ (fun F s hs => by
      show lX2_solveBackFrom_2 _ (F + 1) _ s = _
      rw [lX2_solveBackFrom_2.eq_2, if_pos (by decide)]) (fun F s j hs => by
      obtain ⟨s1, s2, s3, s4⟩ := hs
      have hR : RR s τ := on33_RR h s1
      obtain ⟨s', b1, b2, b3⟩ := back1 hR hm (fun x hx => by rw [s1.1 14 x (by omega)]; exact hp x hx) (t := j) (by omega) s2 (fun σ5 => lX2_solveBackFrom_2 (fun σ6 => some ((), σ6)) F (nI j + (-1)) σ5)
      refine ⟨s', ?_, on33_tr s1 (on33_only b2 (by omega)), b3, fun x x1 x2 i => by rw [b2.1 _ _ (by omega)]; exact s3 x x1 x2 i, by omega⟩
      show lX2_solveBackFrom_2 _ (F + 1) _ s = _
      rw [lX2_solveBackFrom_2.eq_2, if_neg (nI_pos (by omega))]
      exact b1)
  exact ⟨σ', h1, h2, h3, h4⟩
theorem mayS_D (τ : pS) (t : Nat) : mayS τ t < 2 ^ td τ := bset_lt _ _
def onS (σ σ' : pS) : Prop := (∀ e i, ¬ (33 ≤ e ∧ e < 46) → e ≠ 14 → pI σ' e i = pI σ e i) ∧ (∀ e i, pL σ' e i = pL σ e i) ∧ ∀ e i, pR σ' e i = pR σ e i
theorem onS_FX {σ σ' : pS} (hv : 46 ≤ vl σ) (h : onS σ σ') : FX σ σ' := ⟨fun e i he => h.1 e i (by omega) (by omega), ⟨h.1 0 9 (by omega) (by omega), h.1 0 12 (by omega) (by omega)⟩, ⟨h.1 3 0 (by omega) (by omega), h.1 3 1 (by omega) (by omega)⟩, ⟨h.2.1 _ _, h.2.1 _ _⟩, h.2.2 _ _, h.2.2 _ _⟩
theorem solve_eq {σ τ : pS} (h : RR σ τ) : ∃ σ', fX2_solve σ (pR σ 0 8) = some ((), σ') ∧ onS σ σ' ∧ RR σ' τ ∧ payX σ' (mayS τ) ∧ LTX σ' τ (mayS τ) 0 := by
  have o2 := hD8 h
  have hp8 := pow8 o2
  have p0 := Nat.two_pow_pos (td τ)
  have hv := vl_ge h.2.2.2.1
  unfold fX2_solve
  obtain ⟨σ1, h1, h2, h3⟩ := whS (fun F s v => lX2_solve_2 (pR σ 0 8) (fun (σ7 : pS) => lX2_solve_32 (fun (σ13 : pS) => pbind (fX2_solveBackFrom σ13 (11 : Int32)) fun _ σ16 => some ((), σ16)) FU (0 : Int32) σ7) F v s) (n := 12) (by omega) (fun j s => only σ s 14 ∧ ∀ d, d < j → pI s 14 d = nI (mayS τ d)) (fun (σ7 : pS) => lX2_solve_32 (fun (σ13 : pS) => pbind (fX2_solveBackFrom σ13 (11 : Int32)) fun _ σ16 => some ((), σ16)) FU (0 : Int32) σ7) σ ⟨only_rf, fun d hd => absurd hd (Nat.not_lt_zero d)⟩ (fun F s hs => by
      show lX2_solve_2 _ _ (F + 1) _ s = _
      rw [lX2_solve_2.eq_2, if_pos (show (12 : Int32) ≤ nI 12 by decide)]) (fun F s j hj hs => ⟨sI s 14 j (nI (mayS τ j)), by
      show lX2_solve_2 _ _ (F + 1) _ s = _
      have hR : RR s τ := RR_FX h (FX_only hv hs.1 (by omega))
      have e8 : pR σ 0 8 = pR s 0 8 := (hs.1.2.2 0 8).symm
      rw [lX2_solve_2.eq_2, if_neg (show ¬ (12 : Int32) ≤ nI j from nI_nge (b := 12) hj (by decide)), e8, hV hR, if_pos rfl, peopleOut_eq hR hj, obind_some, xmay_eq hR hj, obind_some, pin_lit hj (by decide), nI_clamp (show j < 2 ^ 31 by omega)]
      simp only [if_true, plet_eq, nI_1], only_tr hs.1 only_s, fun d hd => by
        by_cases q : d = j
        · rw [q, pI_sI_eq]
        · rw [pI_sI_nj q]; exact hs.2 d (by omega)⟩)
  have R1 : RR σ1 τ := RR_FX h (FX_only hv h2 (by omega))
  obtain ⟨σ2, k1, k2, k3⟩ := whS (fun F s v => lX2_solve_32 (fun (σ13 : pS) => pbind (fX2_solveBackFrom σ13 (11 : Int32)) fun _ σ16 => some ((), σ16)) F v s) (n := 2 ^ td τ) (by omega) (fun j s => only σ1 s 45 ∧ ∀ d, d < j → pI s 45 d = nI ((dpO τ).2.2 d)) (fun (σ13 : pS) => pbind (fX2_solveBackFrom σ13 (11 : Int32)) fun _ σ16 => some ((), σ16)) σ1 ⟨only_rf, fun d hd => absurd hd (Nat.not_lt_zero d)⟩ (fun F s hs => by
      show lX2_solve_32 _ (F + 1) _ s = _
      rw [lX2_solve_32.eq_2, hs.1.1 3 1 (by omega), allX R1, if_pos (nI_lt (by omega) (by omega))]) (fun F s j hj hs => ⟨sI s 45 j (nI ((dpO τ).2.2 j)), by
      show lX2_solve_32 _ (F + 1) _ s = _
      have ol := op_lt τ j
      have e13 := rateX R1 ol
      have hT : nI ((dpO τ).2.2 j) = (10000 : Int32) * nI (oc (td τ) j) + (12 : Int32) * nI ((dpO τ).2.1 (opN τ j)) := by
        rw [show (10000 : Int32) = nI 10000 from rfl, show (12 : Int32) = nI 12 from rfl, pk_mul, pk_mul, nI_add]
        rfl
      rw [lX2_solve_32.eq_2, hs.1.1 3 1 (by omega), allX R1, if_neg (nI_nlt (by omega) (by omega)), q_not, plet_eq, show diff (2 ^ td τ - 1) j = opN τ j from rfl, bitc_eq (show opN τ j < 4096 by omega), obind_some, op_pop o2, pin_lit (show opN τ j < 256 by omega) (by decide), pin_lit (show j < 256 by omega) (by decide), show pin (12 : Int32) 13 = true by decide, nI_clamp (show opN τ j < 2 ^ 31 by omega), nI_clamp (show j < 2 ^ 31 by omega), hs.1.1 13 _ (by omega), e13, ← hT, show 33 + ((12 : Int32)).toNatClampNeg = 45 by decide]
      simp only [if_true, plet_eq, nI_1], only_tr hs.1 only_s, fun d hd => by
        by_cases q : d = j
        · rw [q, pI_sI_eq]
        · rw [pI_sI_nj q]; exact hs.2 d (by omega)⟩)
  have R2 : RR σ2 τ := RR_FX R1 (FX_only (vl_ge R1.2.2.2.1) k2 (by omega))
  have hpay : payX σ2 (mayS τ) := fun t ht => by rw [k2.1 14 t (by omega)]; exact h3 t ht
  obtain ⟨σ3, b1, b2, b3, -⟩ := back_eq R2 (mayS_D τ) hpay (t := 11) (by decide) (fun t t1 t2 s hs => by
    have : t = 12 := by omega
    subst this
    exact k3 s hs)
  refine ⟨σ3, ?_, ⟨fun e i he e14 => ?_, fun e i => ?_, fun e i => ?_⟩, on33_RR R2 b2, fun t ht => by rw [b2.1 14 t (by omega)]; exact hpay t ht, b3⟩
  · refine h1.trans (k1.trans ?_)
    rw [show (11 : Int32) = nI 11 from rfl, b1]
    rfl
  · rw [b2.1 e i he, k2.1 e i (by omega), h2.1 e i e14]
  · rw [b2.2.1, k2.2.1, h2.2.1]
  · rw [b2.2.2, k2.2.2, h2.2.2]
