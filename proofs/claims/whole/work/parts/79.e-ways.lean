/-! PURE: ways -/
def sumQ (f : Nat → Int64) : Nat → Int64
  | 0 => 0
  | n + 1 => sumQ f n + f n
theorem sumQ_s (f : Nat → Int64) (n : Nat) : sumQ f (n + 1) = sumQ f n + f n := rfl
theorem sumQ_congr {f g : Nat → Int64} : ∀ n, (∀ i, i < n → f i = g i) → sumQ f n = sumQ g n
  | 0, _ => rfl
  | n + 1, h => by rw [sumQ_s, sumQ_s, sumQ_congr n (fun i hi => h i (by omega)), h n (by omega)]
theorem sumQ_zero {f : Nat → Int64} : ∀ n, (∀ i, i < n → f i = 0) → sumQ f n = 0
  | 0, _ => rfl
  | n + 1, h => by rw [sumQ_s, sumQ_zero n (fun i hi => h i (by omega)), h n (by omega), Int64.add_zero]
theorem sumQ_pt {f g : Nat → Int64} {y : Nat} (w : Int64) (hy : f y = g y + w) (ho : ∀ x, x ≠ y → f x = g x) : ∀ n, y < n → sumQ f n = sumQ g n + w
  | 0, h => by omega
  | n + 1, h => by
    rw [sumQ_s, sumQ_s]
    by_cases e : y = n
    · subst e
      rw [sumQ_congr y (fun i hi => ho i (by omega)), hy, Int64.add_assoc]
    · rw [sumQ_pt w hy ho n (by omega), ho n (fun z => e z.symm)]
      ac_rfl
def phQ (c h : Nat → Int64) (n : Nat) : Int64 := sumQ (fun x => c x * h x) n
theorem ph_add {c c' h : Nat → Int64} {y N : Nat} (hy : y < N) {w : Int64} (h1 : c' y = c y + w) (h2 : ∀ x, x ≠ y → c' x = c x) : phQ c' h N = phQ c h N + w * h y := sumQ_pt (f := fun x => c' x * h x) (g := fun x => c x * h x) (w * h y) (by simp only [h1]; exact Int64.add_mul) (fun x hx => by simp only [h2 x hx]) N hy
theorem ph_pt {c h h' : Nat → Int64} {y N : Nat} (hy : y < N) (h1 : h' y = 0) (h2 : ∀ x, x ≠ y → x < N → h' x = h x) : phQ c h N = phQ c h' N + c y * h y := by
  have e : phQ c h' N = phQ c (fun x => if x = y then 0 else h x) N := sumQ_congr N (fun x hx => by
    by_cases z : x = y
    · simp only [z, if_true, h1]
    · simp only [z, if_false, h2 x z hx])
  rw [e]
  exact sumQ_pt (f := fun x => c x * h x) (g := fun x => c x * (if x = y then 0 else h x)) (c y * h y) (by simp) (fun x hx => by simp only [hx, if_false]) N hy
def onlyL (σ σ' : pS) : Prop := (∀ e i, pI σ' e i = pI σ e i) ∧ (∀ e i, e ≠ 17 → pL σ' e i = pL σ e i) ∧ ∀ e i, pR σ' e i = pR σ e i
theorem onlyL_rf {σ : pS} : onlyL σ σ := ⟨fun _ _ => rfl, fun _ _ _ => rfl, fun _ _ => rfl⟩
theorem onlyL_tr {a b c : pS} (h1 : onlyL a b) (h2 : onlyL b c) : onlyL a c := ⟨fun e i => (h2.1 e i).trans (h1.1 e i), fun e i q => (h2.2.1 e i q).trans (h1.2.1 e i q), fun e i => (h2.2.2 e i).trans (h1.2.2 e i)⟩
theorem onlyL_s {σ : pS} {i : Nat} {v : Int64} : onlyL σ (sL σ 17 i v) := ⟨fun _ _ => rfl, fun e j q => by rw [pL_sL, if_neg (fun z => q z.1)], fun _ _ => rfl⟩
theorem onlyL_FX {σ σ' : pS} (h : onlyL σ σ') : FX σ σ' := ⟨fun e i _ => h.1 e i, ⟨h.1 0 9, h.1 0 12⟩, ⟨h.1 3 0, h.1 3 1⟩, ⟨h.2.1 0 10 (by decide), h.2.1 0 11 (by decide)⟩, h.2.2 0 8, h.2.2 1 4⟩
def cQ (σ : pS) (x : Nat) : Int64 := pL σ 17 x
theorem cQ_sL (σ : pS) (i : Nat) (v : Int64) (x : Nat) : cQ (sL σ 17 i v) x = if x = i then v else cQ σ x := by
  unfold cQ
  rw [pL_sL]
  by_cases h : x = i
  · simp [h]
  · simp [h]
theorem xfillL {σ : pS} : ∃ σ', fJ7_fill_d0a16 σ 17 0 = some ((), σ') ∧ onlyL σ σ' ∧ ∀ i, i < 256 → cQ σ' i = 0 := by
  unfold fJ7_fill_d0a16
  rw [show isA wX 1 17 = true by decide, if_pos rfl, plet_eq, show alen wX 17 = 256 by decide]
  exact whS (fun F s v => lJ7_fill_d0a16_6 17 0 (Int32.ofNat 256) (fun σ11 => some ((), σ11)) F v s) (n := 256) (by decide) (fun j s => onlyL σ s ∧ ∀ i, i < j → cQ s i = 0) (fun σ11 => some ((), σ11)) σ ⟨onlyL_rf, fun d hd => absurd hd (Nat.not_lt_zero d)⟩ (fun F s hs => by
      show lJ7_fill_d0a16_6 _ _ _ _ (F + 1) _ s = _
      rw [lJ7_fill_d0a16_6.eq_2, if_pos (show Int32.ofNat 256 ≤ nI 256 by decide)]) (fun F s j hj hs => ⟨sL s 17 j 0, by
      show lJ7_fill_d0a16_6 _ _ _ _ (F + 1) _ s = _
      rw [lJ7_fill_d0a16_6.eq_2, if_neg (show ¬ Int32.ofNat 256 ≤ nI j from nI_nge (b := 256) hj (by decide)), show isA wX 1 17 = true by decide, show alen wX 17 = 256 by decide, pin_lit hj (by decide), nI_clamp (show j < 2 ^ 31 by omega)]
      simp only [if_true, plet_eq, nI_1], onlyL_tr hs.1 onlyL_s, fun d hd => by
        rw [cQ_sL]
        by_cases q : d = j
        · rw [if_pos q]
        · rw [if_neg q]; exact hs.2 d (by omega)⟩)
theorem or_gt {n v : Nat} (h : v &&& n = 0) (hv : 0 < v) : n < n ||| v := by
  have h1 : n ≤ n ||| v := Nat.left_le_or
  rcases Nat.lt_or_ge n (n ||| v) with z | z
  · exact z
  · have e : n ||| v = n := by omega
    have : v &&& (n ||| v) = v := by rw [Nat.and_or_distrib_left, h, Nat.and_self, Nat.zero_or]
    rw [e, h] at this
    omega
/-- what is pushed on out of one set -/
def fpN (P : dpS) (mk : Nat → Nat) (N j t n v : Nat) : Nat := if v = 0 then 0 else if optB P mk j t n v then Wn P mk N j (t + 1) (n ||| v) else 0
theorem Wn_fp {P : dpS} {mk : Nat → Nat} {N j t n : Nat} : Wn P mk N (j + 1) t n = sumN (fpN P mk N j t n) (2 ^ N) + if optB P mk j t n 0 then Wn P mk N j (t + 1) n else 0 := by
  rw [Wn_s]
  have key : ∀ m, 0 < m → sumN (fun v => if optB P mk j t n v then Wn P mk N j (t + 1) (n ||| v) else 0) m = sumN (fpN P mk N j t n) m + if optB P mk j t n 0 then Wn P mk N j (t + 1) n else 0 := by
    intro m
    induction m with
    | zero => intro h; omega
    | succ m ih =>
      intro _
      rw [sumN_s, sumN_s]
      rcases Nat.eq_zero_or_pos m with e | e
      · subst e
        rw [show sumN (fun v => if optB P mk j t n v then Wn P mk N j (t + 1) (n ||| v) else 0) 0 = 0 from rfl, show sumN (fpN P mk N j t n) 0 = 0 from rfl, Nat.or_zero, show fpN P mk N j t n 0 = 0 by unfold fpN; rw [if_pos rfl]]
      · rw [ih e]
        have : fpN P mk N j t n m = if optB P mk j t n m then Wn P mk N j (t + 1) (n ||| m) else 0 := by unfold fpN; rw [if_neg (by omega)]
        rw [this]
        omega
  exact key _ (Nat.two_pow_pos N)
theorem push_eq {σ τ : pS} (h : RR σ τ) {mk : Nat → Nat} (hm : ∀ x, mk x < 2 ^ td τ) (hl : LTX σ τ mk 0) {t n : Nat} (ht : t < 12) (hn : n < 2 ^ td τ) (w : Int64) (hh : Nat → Int64) (hW : ∀ x, n < x → x < 2 ^ td τ → hh x = lN (Wn (dpO τ) mk (td τ) (11 - t) (t + 1) x)) (k : pS → Option (Unit × pS)) : ∃ σ', lX2_passOn_23 (nI t) (nI n) w (nI (diff (mk t) n)) k FU (nI (diff (mk t) n)) σ = k σ' ∧ onlyL σ σ' ∧ (∀ x, x ≤ n → cQ σ' x = cQ σ x) ∧ phQ (cQ σ') hh (2 ^ td τ) = phQ (cQ σ) hh (2 ^ td τ) + w * lN (sumN (fpN (dpO τ) mk (td τ) (11 - t) t n) (2 ^ td τ)) := by
  have o2 := hD8 h
  have hp8 := pow8 o2
  have p0 := Nat.two_pow_pos (td τ)
  have ho := h.2.2.2.2.1
  have gd := dpO_gd τ
  have dl := diff_le (mk t) n
  have mt := hm t
  have e0 := hl t (by omega) (by omega) n hn
  rw [show 12 - t = 11 - t + 1 by omega] at e0
  have l0 := LoO_lt ho mk (11 - t + 1) t n
  have nosub : ∀ v, ¬ v &&& diff (mk t) n = v → fpN (dpO τ) mk (td τ) (11 - t) t n v = 0 := fun v hv => by
    unfold fpN
    split
    · rfl
    · cases z : optB (dpO τ) mk (11 - t) t n v
      · rfl
      · exact absurd (sub_diff.mpr ⟨(opt_ok z).1.1, (opt_ok z).1.2.1⟩) hv
  refine whSubs (fun F (s : pS) v => lX2_passOn_23 (nI t) (nI n) w (nI (diff (mk t) n)) k F v s) (m := diff (mk t) n) (by omega) (fun m s => onlyL σ s ∧ (∀ x, x ≤ n → cQ s x = cQ σ x) ∧ phQ (cQ s) hh (2 ^ td τ) + w * lN (sumN (fpN (dpO τ) mk (td τ) (11 - t) t n) (m + 1)) = phQ (cQ σ) hh (2 ^ td τ) + w * lN (sumN (fpN (dpO τ) mk (td τ) (11 - t) t n) (2 ^ td τ))) (fun o => ∃ σ', o = k σ' ∧ onlyL σ σ' ∧ (∀ x, x ≤ n → cQ σ' x = cQ σ x) ∧ phQ (cQ σ') hh (2 ^ td τ) = phQ (cQ σ) hh (2 ^ td τ) + w * lN (sumN (fpN (dpO τ) mk (td τ) (11 - t) t n) (2 ^ td τ))) (fun F s hs => ⟨s, ?_, hs.1, hs.2.1, ?_⟩) (fun m s hns hs => ⟨hs.1, hs.2.1, ?_⟩) (fun F s v v0 v1 v2 hs => ?_) σ ⟨onlyL_rf, fun _ _ => rfl, ?_⟩
  · show lX2_passOn_23 _ _ _ _ _ (F + 1) _ s = _
    rw [lX2_passOn_23.eq_2, if_pos (by decide)]
  · have := hs.2.2
    rw [sumN_s, show sumN (fpN (dpO τ) mk (td τ) (11 - t) t n) 0 = 0 from rfl, show fpN (dpO τ) mk (td τ) (11 - t) t n 0 = 0 by unfold fpN; rw [if_pos rfl], show lN (0 + 0) = 0 from rfl, Int64.mul_zero, Int64.add_zero] at this
    exact this
  · have := hs.2.2
    rw [sumN_s, nosub (m + 1) hns, Nat.add_zero] at this
    exact this
  · have hR : RR s τ := RR_FX h (onlyL_FX hs.1)
    have hv' : v < 2 ^ td τ := by omega
    have vs := sub_diff.mp v1
    have hov := or_lt hn hv'
    have hgt := or_gt vs.2 v0
    have hnx : ∀ s', s' < 2 ^ td τ → pI s (33 + (t + 1)) s' = nI (Lo (dpO τ) mk (11 - t) (t + 1) s') := fun s' hs' => by
      have := hl (t + 1) (by omega) (by omega) s' hs'
      rw [show 12 - (t + 1) = 11 - t by omega] at this
      rw [hs.1.1]; exact this
    have cl : dpc (dpO τ) t (Lo (dpO τ) mk (11 - t) (t + 1)) n v < 2 ^ 30 := by
      have r2 : t * (dpO τ).2.1 v ≤ 12 * 72 := Nat.mul_le_mul (by omega) (rateO_lt ho v)
      have := LoO_lt ho mk (11 - t) (t + 1) (n ||| v)
      unfold dpc
      omega
    have opv : optB (dpO τ) mk (11 - t) t n v = ((dpO τ).1 v && decide (dpc (dpO τ) t (Lo (dpO τ) mk (11 - t) (t + 1)) n v = Lo (dpO τ) mk (11 - t + 1) t n)) := by
      unfold optB okB
      rw [decide_eq_true vs.1, decide_eq_true vs.2, Bool.true_and, Bool.true_and]
    have step : lX2_passOn_23 (nI t) (nI n) w (nI (diff (mk t) n)) k (F + 1) (nI v) s = if optB (dpO τ) mk (11 - t) t n v = true then lX2_passOn_23 (nI t) (nI n) w (nI (diff (mk t) n)) k F (nI ((v - 1) &&& diff (mk t) n)) (sL s 17 (n ||| v) (cQ s (n ||| v) + w)) else lX2_passOn_23 (nI t) (nI n) w (nI (diff (mk t) n)) k F (nI ((v - 1) &&& diff (mk t) n)) s := by
      rw [lX2_passOn_23.eq_2, if_neg (nI_n0 v0 (by omega)), pin_lit (show v < 256 by omega) (by decide), nI_clamp (show v < 2 ^ 31 by omega), fitX hR hv', lossBy_eq hR ht hn hv' hnx, pin_lit (show t < 13 by omega) (by decide), pin_lit (show n < 256 by omega) (by decide), nI_clamp (show t < 2 ^ 31 by omega), nI_clamp (show n < 2 ^ 31 by omega), hs.1.1, e0, q_or, pin_lit (show n ||| v < 256 by omega) (by decide), nI_clamp (show n ||| v < 2 ^ 31 by omega), opv]
      simp only [if_true, plet_eq, obind_some, sub_pred v0, b2i_0, nI_eq (show dpc (dpO τ) t (Lo (dpO τ) mk (11 - t) (t + 1)) n v < 2 ^ 31 by omega) (show Lo (dpO τ) mk (11 - t + 1) t n < 2 ^ 31 by omega)]
      cases (dpO τ).1 v
      · simp
      · by_cases z : dpc (dpO τ) t (Lo (dpO τ) mk (11 - t) (t + 1)) n v = Lo (dpO τ) mk (11 - t + 1) t n
        · simp [z, cQ]
        · simp [z]
    have sv := hs.2.2
    rw [sumN_s] at sv
    cases q : optB (dpO τ) mk (11 - t) t n v
    · refine ⟨s, ?_, hs.1, hs.2.1, ?_⟩
      · show lX2_passOn_23 _ _ _ _ _ (F + 1) _ s = _
        rw [step, q]; rfl
      · rw [show v - 1 + 1 = v by omega]
        rw [show fpN (dpO τ) mk (td τ) (11 - t) t n v = 0 by unfold fpN; rw [if_neg (by omega), q]; rfl, Nat.add_zero] at sv
        exact sv
    · refine ⟨sL s 17 (n ||| v) (cQ s (n ||| v) + w), ?_, onlyL_tr hs.1 onlyL_s, fun x hx => ?_, ?_⟩
      · show lX2_passOn_23 _ _ _ _ _ (F + 1) _ s = _
        rw [step, q, if_pos rfl]
      · rw [cQ_sL, if_neg (by omega)]; exact hs.2.1 x hx
      · rw [show v - 1 + 1 = v by omega]
        rw [show fpN (dpO τ) mk (td τ) (11 - t) t n v = Wn (dpO τ) mk (td τ) (11 - t) (t + 1) (n ||| v) by unfold fpN; rw [if_neg (by omega), q]; rfl, ← lN_add, Int64.mul_add] at sv
        rw [ph_add (c := cQ s) hov (w := w) (by rw [cQ_sL, if_pos rfl]) (fun x hx => by rw [cQ_sL, if_neg hx]), hW _ hgt hov, ← sv]
        ac_rfl
  · rw [sumN_to (f := fpN (dpO τ) mk (td τ) (11 - t) t n) (n := diff (mk t) n + 1) (N := 2 ^ td τ) (by omega) (fun u u1 u2 => nosub u (fun z => by have := and_le z; omega))]
def gQ (τ : pS) (mk : Nat → Nat) (t m x : Nat) : Int64 := if x < m then lN (Wn (dpO τ) mk (td τ) (12 - t) t x) else lN (Wn (dpO τ) mk (td τ) (11 - t) (t + 1) x)
theorem passOn_eq {σ τ : pS} (h : RR σ τ) {mk : Nat → Nat} (hm : ∀ x, mk x < 2 ^ td τ) (hp : payX σ mk) (hl : LTX σ τ mk 0) {t n : Nat} (ht : t < 12) (hn : n < 2 ^ td τ) : ∃ σ', fX2_passOn σ (nI t) (nI n) = some ((), σ') ∧ onlyL σ σ' ∧ phQ (cQ σ') (gQ τ mk t n) (2 ^ td τ) = phQ (cQ σ) (gQ τ mk t (n + 1)) (2 ^ td τ) := by
  have o2 := hD8 h
  have hp8 := pow8 o2
  have ho := h.2.2.2.2.1
  have gd := dpO_gd τ
  have e1 := hl (t + 1) (by omega) (by omega) n hn
  have e0 := hl t (by omega) (by omega) n hn
  rw [show 12 - (t + 1) = 11 - t by omega] at e1
  rw [show 12 - t = 11 - t + 1 by omega] at e0
  have l1 := LoO_lt ho mk (11 - t) (t + 1) n
  have l0 := LoO_lt ho mk (11 - t + 1) t n
  unfold fX2_passOn
  rw [pin_lit (show n < 256 by omega) (by decide), nI_clamp (show n < 2 ^ 31 by omega), pin_lit ht (by decide), nI_clamp (show t < 2 ^ 31 by omega), hp t ht, q_not]
  simp only [if_true, plet_eq]
  obtain ⟨s, s1, s2, s3, s4⟩ := push_eq h hm hl ht hn (pL σ 17 n) (fun x => if x = n then 0 else gQ τ mk t n x) (fun x h1 h2 => by
    rw [if_neg (by omega)]
    unfold gQ
    rw [if_neg (by omega)]) (fun (σ10 : pS) =>
          if pin (nI t + (1 : Int32)) 13 then
              if pin (nI t) 13 then
                  if (pI σ10 (33 + ((nI t + (1 : Int32))).toNatClampNeg) n) = (pI σ10 (33 + t) n) then
                    some ((), σ10)
                  else
                      some ((), sL σ10 17 n (0 : Int64))
              else none
          else none)
  have kk : ∀ s' : pS, (∀ e i, pI s' e i = pI σ e i) → (if pin (nI t + (1 : Int32)) 13 then
              if pin (nI t) 13 then
                  if (pI s' (33 + ((nI t + (1 : Int32))).toNatClampNeg) n) = (pI s' (33 + t) n) then
                    some ((), s')
                  else
                      some ((), sL s' 17 n (0 : Int64))
              else none
          else none) = if optB (dpO τ) mk (11 - t) t n 0 = true then some ((), s') else some ((), sL s' 17 n 0) := fun s' hs' => by
    have op0 : optB (dpO τ) mk (11 - t) t n 0 = decide (Lo (dpO τ) mk (11 - t) (t + 1) n = Lo (dpO τ) mk (11 - t + 1) t n) := by
      unfold optB
      rw [okB_iff.mpr (okN_0 gd _ _), dpc_0 gd, Bool.true_and]
    rw [nI_1, pin_lit (show t + 1 < 13 by omega) (by decide), pin_lit (show t < 13 by omega) (by decide), nI_clamp (show t + 1 < 2 ^ 31 by omega), hs', hs', e1, e0, op0]
    simp only [if_true, nI_eq (show Lo (dpO τ) mk (11 - t) (t + 1) n < 2 ^ 31 by omega) (show Lo (dpO τ) mk (11 - t + 1) t n < 2 ^ 31 by omega), decide_eq_true_eq]
  have g0 : phQ (cQ σ) (gQ τ mk t (n + 1)) (2 ^ td τ) = phQ (cQ σ) (fun x => if x = n then 0 else gQ τ mk t n x) (2 ^ td τ) + cQ σ n * lN (Wn (dpO τ) mk (td τ) (12 - t) t n) := by
    rw [ph_pt (h' := fun x => if x = n then 0 else gQ τ mk t n x) hn (if_pos rfl) (fun x hx _ => by
      simp only [hx, if_false]
      unfold gQ
      by_cases z : x < n
      · rw [if_pos z, if_pos (by omega)]
      · rw [if_neg z, if_neg (by omega)])]
    congr 2
    unfold gQ
    rw [if_pos (by omega)]
  have g1 : ∀ s' : pS, phQ (cQ s') (gQ τ mk t n) (2 ^ td τ) = phQ (cQ s') (fun x => if x = n then 0 else gQ τ mk t n x) (2 ^ td τ) + cQ s' n * lN (Wn (dpO τ) mk (td τ) (11 - t) (t + 1) n) := fun s' => by
    rw [ph_pt (h' := fun x => if x = n then 0 else gQ τ mk t n x) hn (if_pos rfl) (fun x hx _ => by simp only [hx, if_false])]
    congr 2
    unfold gQ
    rw [if_neg (by omega)]
  have wf := Wn_fp (P := dpO τ) (mk := mk) (N := td τ) (j := 11 - t) (t := t) (n := n)
  rw [show 11 - t + 1 = 12 - t by omega] at wf
  cases q : optB (dpO τ) mk (11 - t) t n 0
  · rw [q, if_neg (by decide), Nat.add_zero] at wf
    refine ⟨sL s 17 n 0, s1.trans ((kk s s2.1).trans (by rw [q]; rfl)), onlyL_tr s2 onlyL_s, ?_⟩
    rw [g1, g0, wf, cQ_sL, if_pos rfl, Int64.zero_mul, Int64.add_zero]
    refine Eq.trans ?_ s4
    refine sumQ_congr _ (fun x _ => ?_)
    by_cases z : x = n
    · simp [z]
    · simp only [cQ_sL, z, if_false]
  · rw [q, if_pos rfl] at wf
    refine ⟨s, s1.trans ((kk s s2.1).trans (by rw [q]; rfl)), s2, ?_⟩
    rw [g1, g0, wf, s4, s3 n (Nat.le_refl _), ← lN_add, Int64.mul_add, Int64.add_assoc]
    rfl
theorem count_hour {σ τ : pS} (h : RR σ τ) {mk : Nat → Nat} (hm : ∀ x, mk x < 2 ^ td τ) (hp : payX σ mk) (hl : LTX σ τ mk 0) {t : Nat} (ht : t < 12) (k : pS → Option (Int64 × pS)) : ∃ σ', lX2_countBest_28 (nI t) k FU (nI (2 ^ td τ - 1)) σ = k σ' ∧ onlyL σ σ' ∧ phQ (cQ σ') (gQ τ mk t 0) (2 ^ td τ) = phQ (cQ σ) (gQ τ mk t (2 ^ td τ)) (2 ^ td τ) := by
  have o2 := hD8 h
  have hp8 := pow8 o2
  have p0 := Nat.two_pow_pos (td τ)
  obtain ⟨σ', k1, k2, k3, -⟩ := whDN (fun F s v => lX2_countBest_28 (nI t) k F v s) (fun j s => onlyL σ s ∧ phQ (cQ s) (gQ τ mk t j) (2 ^ td τ) = phQ (cQ σ) (gQ τ mk t (2 ^ td τ)) (2 ^ td τ) ∧ j ≤ 2 ^ td τ) k (n := 2 ^ td τ - 1) (by omega) σ ⟨onlyL_rf, by rw [show 2 ^ td τ - 1 + 1 = 2 ^ td τ by omega], by omega⟩ (fun F s hs => by
      show lX2_countBest_28 _ _ (F + 1) _ s = _
      rw [lX2_countBest_28.eq_2, if_pos (by decide)]) (fun F s j hs => by
      obtain ⟨s1, s2, s3⟩ := hs
      have hR : RR s τ := RR_FX h (onlyL_FX s1)
      have e : lX2_countBest_28 (nI t) k (F + 1) (nI j) s = if cQ s j = 0 then lX2_countBest_28 (nI t) k F (nI j + (-1)) s else pbind (fX2_passOn s (nI t) (nI j)) fun _ σ8 => lX2_countBest_28 (nI t) k F (nI j + (-1)) σ8 := by
        rw [lX2_countBest_28.eq_2, if_neg (nI_pos (by omega)), pin_lit (show j < 256 by omega) (by decide), nI_clamp (show j < 2 ^ 31 by omega)]
        simp only [if_true, lg_z]
        rfl
      by_cases q : cQ s j = 0
      · refine ⟨s, ?_, s1, ?_, by omega⟩
        · show lX2_countBest_28 _ _ (F + 1) _ s = _
          rw [e, if_pos q]
        · rw [← s2]
          refine sumQ_congr _ (fun x _ => ?_)
          by_cases z : x = j
          · simp only [z, q, Int64.zero_mul]
          · unfold gQ
            by_cases y : x < j
            · rw [if_pos y, if_pos (by omega)]
            · rw [if_neg y, if_neg (by omega)]
      · obtain ⟨s', b1, b2, b3⟩ := passOn_eq hR hm (fun x hx => by rw [s1.1]; exact hp x hx) (fun x x1 x2 y hy => by rw [s1.1]; exact hl x x1 x2 y hy) ht (show j < 2 ^ td τ by omega)
        refine ⟨s', ?_, onlyL_tr s1 b2, b3.trans s2, by omega⟩
        show lX2_countBest_28 _ _ (F + 1) _ s = _
        rw [e, if_neg q, b1, pbind_some])
  exact ⟨σ', k1, k2, k3⟩
theorem countBest_eq {σ τ : pS} (h : RR σ τ) {mk : Nat → Nat} (hm : ∀ x, mk x < 2 ^ td τ) (hp : payX σ mk) (hl : LTX σ τ mk 0) : ∃ σ', fX2_countBest σ = some (lN (Wn (dpO τ) mk (td τ) 12 0 0), σ') ∧ onlyL σ σ' := by
  have o2 := hD8 h
  have hp8 := pow8 o2
  have p0 := Nat.two_pow_pos (td τ)
  unfold fX2_countBest
  obtain ⟨σ3, f1, f2, f3⟩ := xfillL (σ := σ)
  rw [f1, pbind_some, show pin (0 : Int32) 256 = true by decide, if_pos rfl, plet_eq, show (0 : Int32).toNatClampNeg = 0 by decide]
  obtain ⟨σ', g1, g2, g3⟩ := whS (fun F s v => lX2_countBest_17 (fun (σ10 : pS) => lX2_countBest_65 σ10 (fun (y12 : Int64) => some (y12, σ10)) FU (0 : Int64) (0 : Int32)) F v s) (n := 12) (by decide) (fun j s => onlyL σ s ∧ phQ (cQ s) (fun x => lN (Wn (dpO τ) mk (td τ) (12 - j) j x)) (2 ^ td τ) = lN (Wn (dpO τ) mk (td τ) 12 0 0)) (fun (σ10 : pS) => lX2_countBest_65 σ10 (fun (y12 : Int64) => some (y12, σ10)) FU (0 : Int64) (0 : Int32)) (sL σ3 17 0 1) ⟨onlyL_tr f2 onlyL_s, by
      rw [ph_pt (h' := fun x => if x = 0 then 0 else lN (Wn (dpO τ) mk (td τ) (12 - 0) 0 x)) p0 (if_pos rfl) (fun x hx _ => by simp only [hx, if_false]), cQ_sL, if_pos rfl]
      rw [show phQ (cQ (sL σ3 17 0 1)) (fun x => if x = 0 then 0 else lN (Wn (dpO τ) mk (td τ) (12 - 0) 0 x)) (2 ^ td τ) = 0 from sumQ_zero _ (fun x hx => by
        by_cases z : x = 0
        · simp [z]
        · simp only [cQ_sL, z, if_false, f3 x (by omega), Int64.zero_mul]), Int64.zero_add, Int64.one_mul]⟩ (fun F s hs => by
      show lX2_countBest_17 _ (F + 1) _ s = _
      rw [lX2_countBest_17.eq_2, if_pos (show (12 : Int32) ≤ nI 12 by decide)]) (fun F s j hj hs => by
      have hR : RR s τ := RR_FX h (onlyL_FX hs.1)
      obtain ⟨s', b1, b2, b3⟩ := count_hour hR hm (fun x hx => by rw [hs.1.1]; exact hp x hx) (fun x x1 x2 y hy => by rw [hs.1.1]; exact hl x x1 x2 y hy) hj (fun (σ9 : pS) => lX2_countBest_17 (fun (σ10 : pS) => lX2_countBest_65 σ10 (fun (y12 : Int64) => some (y12, σ10)) FU (0 : Int64) (0 : Int32)) F (nI j + (1 : Int32)) σ9)
      refine ⟨s', ?_, onlyL_tr hs.1 b2, ?_⟩
      · show lX2_countBest_17 _ (F + 1) _ s = _
        rw [lX2_countBest_17.eq_2, if_neg (show ¬ (12 : Int32) ≤ nI j from nI_nge (b := 12) hj (by decide)), allX hR, plet_eq]
        refine b1.trans ?_
        rw [nI_1]
      · rw [← hs.2]
        refine Eq.trans ?_ (b3.trans ?_)
        · refine sumQ_congr _ (fun x _ => ?_)
          unfold gQ
          rw [if_neg (by omega), show 12 - (j + 1) = 11 - j by omega]
        · refine sumQ_congr _ (fun x hx => ?_)
          unfold gQ
          rw [if_pos hx])
  have hR : RR σ' τ := RR_FX h (onlyL_FX g2)
  refine ⟨σ', g1.trans ?_, g2⟩
  have run : lX2_countBest_65 σ' (fun (y12 : Int64) => some (y12, σ')) FU (0 : Int64) (nI 0) = some (sumQ (cQ σ') (2 ^ td τ), σ') := by
    refine whF (fun F (a : Int64) v => lX2_countBest_65 σ' (fun (y12 : Int64) => some (y12, σ')) F a v) (n := 2 ^ td τ) (by omega) (fun j => sumQ (cQ σ') j) _ (fun F => ?_) (fun F j hj => ?_)
    · show lX2_countBest_65 σ' _ (F + 1) _ _ = _
      rw [lX2_countBest_65.eq_2, allX hR, if_pos (nI_lt (by omega) (by omega))]
    · show lX2_countBest_65 σ' _ (F + 1) _ _ = _
      rw [lX2_countBest_65.eq_2, allX hR, if_neg (nI_nlt (by omega) (by omega)), pin_lit (show j < 256 by omega) (by decide), nI_clamp (show j < 2 ^ 31 by omega)]
      simp only [if_true, plet_eq, nI_1]
      rfl
  refine run.trans ?_
  rw [← g3]
  refine congrArg (fun z => some (z, σ')) (sumQ_congr _ (fun x _ => ?_))
  show _ = cQ σ' x * lN 1
  exact (Int64.mul_one _).symm
theorem RR_ul {σ τ : pS} (h : RR σ τ) (w : Int64) : RR (sL (sL σ 0 10 w) 0 11 1) (sL (sL τ 0 3 w) 0 4 1) := by
  refine RR_fr h LX_rf LY_rf ⟨h.1.1, ?_, ?_, h.1.2.2.2⟩
  · rw [pL_sL, if_neg (by decide), pL_sL, if_pos ⟨rfl, rfl⟩, pL_sL, if_neg (by decide), pL_sL, if_pos ⟨rfl, rfl⟩]
  · rw [pL_sL, if_pos ⟨rfl, rfl⟩, pL_sL, if_pos ⟨rfl, rfl⟩]
theorem o_ways : op_ways RR := by
  intro σ τ h
  unfold fX4_ways fX5_ways
  have ho := h.2.2.2.2.1
  obtain ⟨σ3, s1, s2, s3, s4, s5⟩ := solve_eq h
  obtain ⟨σ6, c1, c2⟩ := countBest_eq s3 (mayS_D τ) s4 s5
  obtain ⟨τ3, m1, m2, m3⟩ := layRounds_eq ho (e := 12) (by decide)
  have w0 := (m3 0 (Nat.le_refl _) (by decide) 0 (Nat.two_pow_pos _)).2
  refine ⟨1, _, _, by rw [s1, pbind_some, c1, pbind_some]; rfl, ?_, RR_ul (RR_F s3 (onlyL_FX c2) (FB_FM m2)) (lN (Wn (dpO τ) (mayS τ) (td τ) 12 0 0))⟩
  rw [show (12 : Int32) = nI 12 from rfl, m1, pbind_some, show pin (0 : Int32) 3328 = true by decide, if_pos rfl, show (0 : Int32).toNatClampNeg = 0 by decide, show pL τ3 13 0 = _ from w0]
  rfl
