/-! PURE: what calls may change freely; copy -/
def FM (τ τ' : pS) : Prop := (∀ e i, e ≠ 0 → e ≠ 4 → e ≠ 9 → e ≠ 10 → e ≠ 11 → e ≠ 12 → e ≠ 14 → e ≠ 15 → pI τ' e i = pI τ e i) ∧ (∀ i, i = 0 ∨ i = 2 ∨ i = 10 ∨ i = 12 ∨ i = 14 → pI τ' 0 i = pI τ 0 i) ∧ pL τ' 0 3 = pL τ 0 3 ∧ pL τ' 0 4 = pL τ 0 4
theorem FM_rf {τ : pS} : FM τ τ := ⟨fun _ _ _ _ _ _ _ _ _ _ => rfl, fun _ _ => rfl, rfl, rfl⟩
theorem FM_tr {a b c : pS} (h1 : FM a b) (h2 : FM b c) : FM a c := ⟨fun e i q1 q2 q3 q4 q5 q6 q7 q8 => (h2.1 e i q1 q2 q3 q4 q5 q6 q7 q8).trans (h1.1 e i q1 q2 q3 q4 q5 q6 q7 q8), fun i hi => (h2.2.1 i hi).trans (h1.2.1 i hi), h2.2.2.1.trans h1.2.2.1, h2.2.2.2.trans h1.2.2.2⟩
theorem FM_only {τ τ' : pS} {e : Nat} (h : only τ τ' e) (he : e = 4 ∨ e = 9 ∨ e = 10 ∨ e = 11 ∨ e = 12 ∨ e = 14 ∨ e = 15) : FM τ τ' := ⟨fun e' i q1 q2 q3 q4 q5 q6 q7 q8 => h.1 e' i (by omega), fun i hi => h.1 0 i (by omega), h.2.1 0 3, h.2.1 0 4⟩
theorem FM_sI {τ : pS} {e i : Nat} {v : Int32} (he : e = 4 ∨ e = 9 ∨ e = 10 ∨ e = 11 ∨ e = 12 ∨ e = 14 ∨ e = 15 ∨ (e = 0 ∧ i ≠ 0 ∧ i ≠ 2 ∧ i ≠ 10 ∧ i ≠ 12 ∧ i ≠ 14)) : FM τ (sI τ e i v) := ⟨fun e' i' q1 q2 q3 q4 q5 q6 q7 q8 => pI_sI_ne (by omega), fun i' hi => by rw [pI_sI, if_neg (by omega)], rfl, rfl⟩
theorem FM_sL {τ : pS} {e i : Nat} {v : Int64} (he : e ≠ 0) : FM τ (sL τ e i v) := ⟨fun e' i' q1 q2 q3 q4 q5 q6 q7 q8 => rfl, fun i' hi => rfl, by rw [pL_sL, if_neg (by omega)], by rw [pL_sL, if_neg (by omega)]⟩
theorem FM_LY {τ τ' : pS} (h : FM τ τ') : LY τ τ' := ⟨fun e he i => h.1 e i (by omega) (by omega) (by omega) (by omega) (by omega) (by omega) (by omega) (by omega), fun e he i => h.1 e i (by omega) (by omega) (by omega) (by omega) (by omega) (by omega) (by omega) (by omega), fun e he i => h.1 e i (by omega) (by omega) (by omega) (by omega) (by omega) (by omega) (by omega) (by omega), h.2.1 10 (by omega), h.2.1 12 (by omega), h.2.1 14 (by omega)⟩
def FX (σ σ' : pS) : Prop := (∀ e i, (e = 5 ∨ e = 7 ∨ e = 8 ∨ e = 9 ∨ e = 11 ∨ e = 12 ∨ e = 13 ∨ (20 ≤ e ∧ e < 33) ∨ (vl σ ≤ e ∧ e ≤ vl σ + 8)) → pI σ' e i = pI σ e i) ∧ (pI σ' 0 9 = pI σ 0 9 ∧ pI σ' 0 12 = pI σ 0 12) ∧ (pI σ' 3 0 = pI σ 3 0 ∧ pI σ' 3 1 = pI σ 3 1) ∧ (pL σ' 0 10 = pL σ 0 10 ∧ pL σ' 0 11 = pL σ 0 11) ∧ pR σ' 0 8 = pR σ 0 8 ∧ pR σ' 1 4 = pR σ 1 4
theorem FX_rf {σ : pS} : FX σ σ := ⟨fun _ _ _ => rfl, ⟨rfl, rfl⟩, ⟨rfl, rfl⟩, ⟨rfl, rfl⟩, rfl, rfl⟩
theorem FX_tr {a b c : pS} (h1 : FX a b) (h2 : FX b c) : FX a c := by
  have e : vl b = vl a := h1.2.2.2.2.1
  refine ⟨fun x i hx => ?_, ⟨h2.2.1.1.trans h1.2.1.1, h2.2.1.2.trans h1.2.1.2⟩, ⟨h2.2.2.1.1.trans h1.2.2.1.1, h2.2.2.1.2.trans h1.2.2.1.2⟩, ⟨h2.2.2.2.1.1.trans h1.2.2.2.1.1, h2.2.2.2.1.2.trans h1.2.2.2.1.2⟩, h2.2.2.2.2.1.trans h1.2.2.2.2.1, h2.2.2.2.2.2.trans h1.2.2.2.2.2⟩
  rw [h2.1 x i (by rw [e]; exact hx), h1.1 x i hx]
theorem FX_LX {σ σ' : pS} (h : FX σ σ') : LX σ σ' := ⟨fun e he i => h.1 e i (by omega), fun e he i => h.1 e i (by omega), fun e he i => h.1 e i (by omega), h.2.2.1.1, h.2.2.1.2, h.2.2.2.2.1, h.2.2.2.2.2⟩
theorem RR_F {σ σ' τ τ' : pS} (h : RR σ τ) (hx : FX σ σ') (hm : FM τ τ') : RR σ' τ' := by
  obtain ⟨a1, a2, a3, a4, a5⟩ := h.1
  refine RR_fr h (FX_LX hx) (FM_LY hm) ⟨xm hx.2.1.1 (hm.2.1 2 (by omega)) a1, xm hx.2.2.2.1.1 hm.2.2.1 a2, xm hx.2.2.2.1.2 hm.2.2.2 a3, xm hx.2.1.2 (hm.2.1 0 (by omega)) a4, fun f hf => xm (hx.1 8 f (by omega)) (hm.1 1 f (by decide) (by decide) (by decide) (by decide) (by decide) (by decide) (by decide) (by decide)) (a5 f hf)⟩
theorem RR_FM {σ τ τ' : pS} (h : RR σ τ) (hm : FM τ τ') : RR σ τ' := RR_F h FX_rf hm
theorem RR_FX {σ σ' τ : pS} (h : RR σ τ) (hx : FX σ σ') : RR σ' τ := RR_F h hx FM_rf
theorem FX_sI {σ : pS} (hv : 46 ≤ vl σ) {e i : Nat} {v : Int32} (he : e = 1 ∨ e = 14 ∨ e = 16 ∨ e = 18 ∨ (33 ≤ e ∧ e < 46) ∨ (e = 3 ∧ 2 ≤ i)) : FX σ (sI σ e i v) := ⟨fun e' j he' => pI_sI_ne (by omega), ⟨pI_sI_ne (by omega), pI_sI_ne (by omega)⟩, ⟨by rw [pI_sI, if_neg (by omega)], by rw [pI_sI, if_neg (by omega)]⟩, ⟨rfl, rfl⟩, rfl, rfl⟩
theorem FX_only {σ σ' : pS} (hv : 46 ≤ vl σ) {e : Nat} (h : only σ σ' e) (he : e = 1 ∨ e = 14 ∨ e = 16 ∨ e = 18 ∨ (33 ≤ e ∧ e < 46)) : FX σ σ' := ⟨fun e' j he' => h.1 e' j (by omega), ⟨h.1 0 9 (by omega), h.1 0 12 (by omega)⟩, ⟨h.1 3 0 (by omega), h.1 3 1 (by omega)⟩, ⟨h.2.1 _ _, h.2.1 _ _⟩, h.2.2 _ _, h.2.2 _ _⟩
theorem only_tr {a b c : pS} {e : Nat} (h1 : only a b e) (h2 : only b c e) : only a c e := ⟨fun e' i he => (h2.1 e' i he).trans (h1.1 e' i he), fun e' i => (h2.2.1 e' i).trans (h1.2.1 e' i), fun e' i => (h2.2.2 e' i).trans (h1.2.2 e' i)⟩
theorem only_s {σ : pS} {e i : Nat} {v : Int32} : only σ (sI σ e i v) e := only_sI only_rf
theorem hp_cases (x : Int32) {s c : Nat} (hs : s ≤ 60) (hc : c < 2 ^ 31) : (fX4_hasPlaces (nI s) x (nI c) = some 0 ∧ (x < 0 ∨ (¬ x < 0 ∧ 0 < lg_cmp (x.toInt64 + (nI c).toInt64) (nI s).toInt64 ∧ ¬ lg_cmp (x.toInt64 + (nI c).toInt64) (nI s).toInt64 ≤ 0))) ∨ ∃ i, i + c ≤ s ∧ x = nI i ∧ fX4_hasPlaces (nI s) x (nI c) = some 1 ∧ ¬ x < 0 ∧ ¬ 0 < lg_cmp (x.toInt64 + (nI c).toInt64) (nI s).toInt64 ∧ lg_cmp (x.toInt64 + (nI c).toInt64) (nI s).toInt64 ≤ 0 := by
  unfold fX4_hasPlaces
  by_cases h0 : x < 0
  · exact Or.inl ⟨by rw [if_pos h0], Or.inl h0⟩
  obtain ⟨i, hi, rfl⟩ := nI_of h0
  rw [if_neg h0]
  have el : (nI i).toInt64 + (nI c).toInt64 = lN (i + c) := by rw [nI_l hi, nI_l hc, lN_add]
  rw [el, nI_l (show s < 2 ^ 31 by omega)]
  by_cases g : i + c ≤ s
  · have z1 : ¬ lN s < lN (i + c) := fun z => absurd ((pk_lLT (by omega) (by omega)).mp z) (by omega)
    have z2 : ¬ (nI s - nI i < nI c) := by
      rw [pk_sub (by omega)]
      exact nI_nlt (by omega) (by omega)
    refine Or.inr ⟨i, g, rfl, by rw [if_neg (nI_nlt (by omega) (by omega)), if_neg z2], h0, ?_, ?_⟩
    · unfold lg_cmp
      rw [if_neg z1]
      split <;> decide
    · unfold lg_cmp
      rw [if_neg z1]
      split <;> decide
  · have z1 : lN s < lN (i + c) := (pk_lLT (by omega) (by omega)).mpr (by omega)
    refine Or.inl ⟨?_, Or.inr ⟨h0, ?_, ?_⟩⟩
    · by_cases e : nI s < nI i
      · rw [if_pos e]
      · rw [if_neg e, if_pos]
        have : ¬ s < i := fun z => e (nI_lt z hi)
        rw [pk_sub (by omega)]
        exact nI_lt (by omega) hc
    · unfold lg_cmp
      rw [if_pos z1]
      decide
    · unfold lg_cmp
      rw [if_pos z1]
      decide
theorem pcp_ok {w : pW} {a b n0 n1 i j c : Nat} (h1 : i + c ≤ n0) (h2 : j + c ≤ n1) (h3 : n0 < 2 ^ 31) (h4 : n1 < 2 ^ 31) : pcp w a b n0 n1 (nI i) (nI j) (nI c) = true := by
  unfold pcp
  rw [nI_clamp (by omega), nI_clamp (by omega), nI_clamp (by omega)]
  simp [nI_pos (show i < 2 ^ 31 by omega), nI_pos (show j < 2 ^ 31 by omega), nI_pos (show c < 2 ^ 31 by omega), h1, h2]
theorem o_copy : op_copy RR := by
  intro σ τ a x b y n h
  unfold fX4_copy fX5_copy
  rcases isRow_cases a with ⟨h1, h2⟩ | ⟨k, hk, rfl, h1, h2⟩
  · exact ⟨-1, σ, τ, by rw [h1]; rfl, by rw [h2]; rfl, h⟩
  rw [h1, h2]
  simp only [obind_some, i10, if_false]
  rcases isRow_cases b with ⟨h1, h2⟩ | ⟨m, hm, rfl, h1, h2⟩
  · exact ⟨-1, σ, τ, by rw [h1]; rfl, by rw [h2]; rfl, h⟩
  rw [h1, h2]
  simp only [obind_some, i10, if_false]
  by_cases hn : 0 ≤ n
  case neg =>
    simp only [hn, if_false, xf5, mf5, pbind_some]
    exact ⟨-3, _, _, rfl, rfl, RR_find h (by decide)⟩
  have hn' : ¬ n < 0 := fun z => by rw [Int32.lt_iff_toInt_lt] at z; rw [Int32.le_iff_toInt_le] at hn; omega
  obtain ⟨c, hc, rfl⟩ := nI_of hn'
  simp only [hn, if_true, pin_lit hk (show 6 ≤ 2 ^ 31 by decide), pin_lit hm (show 6 ≤ 2 ^ 31 by decide), nI_clamp (show k < 2 ^ 31 by omega), nI_clamp (show m < 2 ^ 31 by omega), plet_eq, xf1, mf1, xf2, mf2, pbind_some]
  rcases h.2.1 k hk with ⟨e1, e2⟩ | ⟨s, hs, e1, e2, e3⟩
  · rw [e1, e2]
    simp only [if_true, nI_m1_lt]
    exact ⟨-3, _, _, rfl, rfl, RR_find h (by decide)⟩
  rw [e1, e2]
  simp only [nI_ne_m1 (show s < 2 ^ 31 by omega), if_false, nI_pos (show s < 2 ^ 31 by omega)]
  rcases h.2.1 m hm with ⟨d1, d2⟩ | ⟨s', hs', d1, d2, d3⟩
  · rw [d1, d2]
    simp only [if_true, nI_m1_nge, if_false]
    exact ⟨-3, _, _, rfl, rfl, RR_find h (by decide)⟩
  rw [d1, d2]
  simp only [nI_ne_m1 (show s' < 2 ^ 31 by omega), if_false, nI_ge0 (show s' < 2 ^ 31 by omega), if_true]
  rcases hp_cases x (s := s) (c := c) (by omega) hc with ⟨p1, p2⟩ | ⟨i, hi, rfl, p1, p2, p3, p4⟩
  · rw [p1]
    simp only [obind_some, if_true]
    refine ⟨-3, _, _, rfl, ?_, RR_find h (f := 2) (by decide)⟩
    rcases p2 with p2 | ⟨p2, p3, _⟩
    · rw [if_pos p2]
    · rw [if_neg p2, if_pos p3]
      split <;> rfl
  rw [p1]
  simp only [obind_some, i10, if_false, p2, p3]
  rcases hp_cases y (s := s') (c := c) (by omega) hc with ⟨r1, r2⟩ | ⟨j, hj, rfl, r1, r2, r3, r4⟩
  · rw [r1]
    simp only [obind_some, if_true]
    refine ⟨-3, _, _, rfl, ?_, RR_find h (f := 2) (by decide)⟩
    rcases r2 with r2 | ⟨r2, _, r3⟩
    · rw [if_pos r2]
    · rw [if_neg r2, if_neg r3]
  rw [r1]
  simp only [obind_some, i10, if_false, r2, r4, if_true, pcp_ok (w := wX) (a := 20 + k) (b := 20 + m) (show i + c ≤ 60 by omega) (show j + c ≤ 60 by omega) (by decide) (by decide), nI_clamp (show i < 2 ^ 31 by omega), nI_clamp (show j < 2 ^ 31 by omega), nI_clamp hc]
  obtain ⟨τ1, f1, f2, f3⟩ := whS (fun F t v => lX5_copy_104 (nI k) (nI i) (nI m) (nI j) (nI c) (fun (σ16 : pS) => lX5_copy_136 (nI m) (nI j) (nI c) (fun (σ18 : pS) => some ((1 : Int32), σ18)) FU (0 : Int32) σ16) F v t) (n := c) (by omega) (fun q t => (∀ z, z < q → pI t 4 z = pI τ 3 (60 * k + (i + z))) ∧ only τ t 4) (fun (σ16 : pS) => lX5_copy_136 (nI m) (nI j) (nI c) (fun (σ18 : pS) => some ((1 : Int32), σ18)) FU (0 : Int32) σ16) τ ⟨fun d hd => absurd hd (Nat.not_lt_zero d), only_rf⟩ (fun F t ht => by
      show lX5_copy_104 _ _ _ _ _ _ (F + 1) _ t = _
      rw [lX5_copy_104.eq_2, if_pos (nI_le (Nat.le_refl _) hc)]) (fun F t q hq ht => ⟨sI t 4 q (pI τ 3 (60 * k + (i + q))), by
      show lX5_copy_104 _ _ _ _ _ _ (F + 1) _ t = _
      rw [lX5_copy_104.eq_2, if_neg (nI_nge hq hc), nI_add, rowAt_eq hk (show i + q < 60 by omega), pin_lit (show q < 60 by omega) (by decide), nI_clamp (show q < 2 ^ 31 by omega), ht.2.1 3 _ (by decide)]
      simp only [if_true, plet_eq, nI_1, obind_some], by
      refine ⟨fun z hz => ?_, ⟨fun e w he => ?_, fun e w => ht.2.2.1 e w, fun e w => ht.2.2.2 e w⟩⟩
      · by_cases e : z = q
        · rw [e, pI_sI_eq]
        · rw [pI_sI_nj e]; exact ht.1 z (by omega)
      · rw [pI_sI_ne he]; exact ht.2.1 e w he⟩)
  obtain ⟨τ2, g1, g2, g3, g4⟩ := whS (fun F t v => lX5_copy_136 (nI m) (nI j) (nI c) (fun (σ18 : pS) => some ((1 : Int32), σ18)) F v t) (n := c) (by omega) (fun q t => (∀ z, z < q → pI t 3 (60 * m + j + z) = pI τ 3 (60 * k + (i + z))) ∧ (∀ z, (z < 60 * m + j ∨ 60 * m + j + c ≤ z) → pI t 3 z = pI τ 3 z) ∧ only τ1 t 3) (fun (σ18 : pS) => some ((1 : Int32), σ18)) τ1 ⟨fun d hd => absurd hd (Nat.not_lt_zero d), fun z _ => f3.1 3 z (by decide), only_rf⟩ (fun F t ht => by
      show lX5_copy_136 _ _ _ _ (F + 1) _ t = _
      rw [lX5_copy_136.eq_2, if_pos (nI_le (Nat.le_refl _) hc)]) (fun F t q hq ht => ⟨sI t 3 (60 * m + j + q) (pI τ 3 (60 * k + (i + q))), by
      show lX5_copy_136 _ _ _ _ (F + 1) _ t = _
      rw [lX5_copy_136.eq_2, if_neg (nI_nge hq hc), n60, nI_add, pin_lit (show q < 60 by omega) (by decide), pin_lit (show 60 * m + j + q < 360 by omega) (by decide), nI_clamp (show q < 2 ^ 31 by omega), nI_clamp (show 60 * m + j + q < 2 ^ 31 by omega), ht.2.2.1 4 _ (by decide), f2 q hq]
      simp only [if_true, plet_eq, nI_1], by
      refine ⟨fun z hz => ?_, fun z hz => ?_, ⟨fun e w he => ?_, fun e w => ht.2.2.2.1 e w, fun e w => ht.2.2.2.2 e w⟩⟩
      · by_cases e : z = q
        · rw [e, pI_sI_eq]
        · rw [pI_sI_nj (by omega)]; exact ht.1 z (by omega)
      · rw [pI_sI_nj (by omega)]; exact ht.2.1 z hz
      · rw [pI_sI_ne he]; exact ht.2.2.1 e w he⟩)
  have h' : RR σ τ1 := RR_FM h (FM_only f3 (by omega))
  have xo : ∀ e q, e ≠ 20 + m → pI (sF σ (20 + m) (va_cpy (σ.1 (20 + k)) (σ.1 (20 + m)) i j c)) e q = pI σ e q := fun e q he => by rw [pI_sF, if_neg he]
  refine ⟨1, _, τ2, rfl, f1.trans g1, RR_row1 (k := m) h' hm (fun e q q1 q2 => xo e q q2) (fun r hr => xo 5 r (by omega)) (fun _ _ => rfl) (fun _ _ => rfl) (fun e q q1 q2 => g4.1 e q q2) (fun r hr => g4.1 2 r (by decide)) (fun r q q1 q2 => ?_) (fun e q => g4.2.1 e q) (Or.inr ⟨s', hs', (xo 5 m (by omega)).trans d1, (g4.1 2 m (by decide)).trans ((f3.1 2 m (by decide)).trans d2), fun q hq => ?_⟩)⟩
  · rw [g3 _ (by omega), f3.1 3 _ (by decide)]
  · rw [pI_sF, if_pos rfl]
    by_cases z : j ≤ q ∧ q < j + c
    · rw [pk_cpy_in z.1 z.2]
      have := g2 (q - j) (by omega)
      rw [show 60 * m + j + (q - j) = 60 * m + q by omega] at this
      rw [this]
      exact e3 (i + (q - j)) (by omega)
    · rw [pk_cpy_out (by omega), g3 _ (by omega)]
      exact d3 q hq
