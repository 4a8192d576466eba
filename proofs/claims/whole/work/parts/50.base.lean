/-! PURE: reads and writes of the pure state; small numbers -/
theorem pI_sI (σ : pS) (e i : Nat) (v : Int32) (e' j : Nat) : pI (sI σ e i v) e' j = if e' = e ∧ j = i then v else pI σ e' j := by
  unfold pI sI upd
  by_cases h : e' = e
  · subst h; by_cases h2 : j = i <;> simp [h2]
  · simp [h]
theorem pI_sI_ne {σ : pS} {e i : Nat} {v : Int32} {e' j : Nat} (h : e' ≠ e) : pI (sI σ e i v) e' j = pI σ e' j := by rw [pI_sI, if_neg (fun z => h z.1)]
theorem pI_sI_nj {σ : pS} {e i : Nat} {v : Int32} {e' j : Nat} (h : j ≠ i) : pI (sI σ e i v) e' j = pI σ e' j := by rw [pI_sI, if_neg (fun z => h z.2)]
theorem pI_sI_eq {σ : pS} {e i : Nat} {v : Int32} : pI (sI σ e i v) e i = v := by rw [pI_sI, if_pos ⟨rfl, rfl⟩]
theorem pL_sI {σ : pS} {e i : Nat} {v : Int32} {e' j : Nat} : pL (sI σ e i v) e' j = pL σ e' j := rfl
theorem pR_sI {σ : pS} {e i : Nat} {v : Int32} {e' j : Nat} : pR (sI σ e i v) e' j = pR σ e' j := rfl
theorem pI_sL {σ : pS} {e i : Nat} {v : Int64} {e' j : Nat} : pI (sL σ e i v) e' j = pI σ e' j := rfl
theorem pR_sL {σ : pS} {e i : Nat} {v : Int64} {e' j : Nat} : pR (sL σ e i v) e' j = pR σ e' j := rfl
theorem pL_sL (σ : pS) (e i : Nat) (v : Int64) (e' j : Nat) : pL (sL σ e i v) e' j = if e' = e ∧ j = i then v else pL σ e' j := by
  unfold pL sL vp_updL
  by_cases h : e' = e
  · subst h; by_cases h2 : j = i <;> simp [h2]
  · simp [h]
theorem pI_sR {σ : pS} {e i : Nat} {v : Nat} {e' j : Nat} : pI (sR σ e i v) e' j = pI σ e' j := rfl
theorem pL_sR {σ : pS} {e i : Nat} {v : Nat} {e' j : Nat} : pL (sR σ e i v) e' j = pL σ e' j := rfl
theorem pR_sR (σ : pS) (e i v e' j : Nat) : pR (sR σ e i v) e' j = if e' = e ∧ j = i then v else pR σ e' j := by
  unfold pR sR
  by_cases h : e' = e
  · subst h; by_cases h2 : j = i <;> simp [h2]
  · simp [h]
theorem pI_sF (σ : pS) (e : Nat) (f : Nat → Int32) (e' j : Nat) : pI (sF σ e f) e' j = if e' = e then f j else pI σ e' j := by
  unfold pI sF
  by_cases h : e' = e <;> simp [h]
theorem pL_sF {σ : pS} {e : Nat} {f : Nat → Int32} {e' j : Nat} : pL (sF σ e f) e' j = pL σ e' j := rfl
theorem pR_sF {σ : pS} {e : Nat} {f : Nat → Int32} {e' j : Nat} : pR (sF σ e f) e' j = pR σ e' j := rfl
theorem pin_nI {k n : Nat} (h : k < 2 ^ 31) : pin (nI k) n = decide (k < n) := by
  simp only [pin, nI_clamp h, nI_pos h, decide_false, Bool.not_false, Bool.true_and]
theorem pin_lit {k n : Nat} (h : k < n) (h2 : n ≤ 2 ^ 31) : pin (nI k) n = true := by rw [pin_nI (by omega)]; simpa using h
theorem nI_ne_m1 {k : Nat} (h : k < 2 ^ 31) : ¬ nI k = -1 := by
  intro z
  have := congrArg Int32.toInt z
  rw [nI_toInt h] at this
  have h2 : (-1 : Int32).toInt = -1 := by decide
  omega
theorem nI_ne_m9 {k : Nat} (h : k < 2 ^ 31) : ¬ nI k = -9 := by
  intro z
  have := congrArg Int32.toInt z
  rw [nI_toInt h] at this
  have h2 : (-9 : Int32).toInt = -9 := by decide
  omega
theorem nI_m1_lt : ((-1 : Int32) < 0) := by decide
theorem nI_ge0 {k : Nat} (h : k < 2 ^ 31) : (0 : Int32) ≤ nI k := nI_pos' h
theorem nI_m1_nge : ¬ ((0 : Int32) ≤ -1) := by decide
theorem pbind_some {α ρ : Type} {a : α} {s : pS} {k : α → pS → Option ρ} : pbind (some (a, s)) k = k a s := rfl
theorem plet_eq {α β : Type} {v : α} {k : α → β} : plet v k = k v := rfl
theorem obind_some {α ρ : Type} {a : α} {k : α → Option ρ} : (some a).bind k = k a := rfl
/-- an int is a place below n, or too small, or too large -/
theorem ix_cases (x : Int32) (n : Nat) (hn : n < 2 ^ 31) : (x < 0) ∨ (¬ x < 0 ∧ nI n ≤ x) ∨ ∃ k, k < n ∧ x = nI k := by
  rcases pk_ix x hn with h | h | h
  · exact Or.inl h
  · by_cases h0 : x < 0
    · exact Or.inl h0
    · exact Or.inr (Or.inl ⟨h0, h⟩)
  · exact Or.inr (Or.inr h)
theorem nI_nge {a b : Nat} (h : a < b) (hb : b < 2 ^ 31) : ¬ nI b ≤ nI a := nI_ge h hb
/-! PURE: the relation between the class's state and the reference's -/
def tn (τ : pS) : Nat := (pI τ 0 10).toNatClampNeg
def td (τ : pS) : Nat := (pI τ 0 12).toNatClampNeg
def vl (σ : pS) : Nat := pR σ 0 8
def vs (σ : pS) : Nat := pR σ 1 4
def b2i (b : Bool) : Int32 := if b then 1 else 0
def clashT (τ : pS) (d e : Nat) : Bool := decide (pI τ 8 (5 * d) = pI τ 8 (5 * e)) || decide (pI τ 8 (5 * d + 1) = pI τ 8 (5 * e + 1))
def fitT (τ : pS) (s n : Nat) : Bool := (List.range n).all fun d => (List.range d).all fun e => !(s.testBit d && s.testBit e && clashT τ d e)
def rateT (τ : pS) (s : Nat) : Nat → Nat
  | 0 => 0
  | n + 1 => rateT τ s n + if s.testBit n then (pI τ 8 (5 * n + 3)).toNatClampNeg else 0
def Rs (σ τ : pS) : Prop := pI σ 0 9 = pI τ 0 2 ∧ pL σ 0 10 = pL τ 0 3 ∧ pL σ 0 11 = pL τ 0 4 ∧ pI σ 0 12 = pI τ 0 0 ∧ ∀ f, f < 6 → pI σ 8 f = pI τ 1 f
def Rrow (σ τ : pS) (r : Nat) : Prop := (pI σ 5 r = -1 ∧ pI τ 2 r = -1) ∨ ∃ s, s ≤ 60 ∧ pI σ 5 r = nI s ∧ pI τ 2 r = nI s ∧ ∀ i, i < s → pI σ (20 + r) i = pI τ 3 (60 * r + i)
def Rr (σ τ : pS) : Prop := ∀ r, r < 6 → Rrow σ τ r
def Rtext (σ τ : pS) (t : Nat) : Prop := (pI σ 7 t = -1 ∧ pI τ 5 t = -1) ∨ ∃ s, s ≤ 120 ∧ pI σ 7 t = nI s ∧ pI τ 5 t = nI s ∧ ∀ i, i < s → pI σ (26 + t) i = pI τ 6 (120 * t + i)
def Rt (σ τ : pS) : Prop := ∀ t, t < 4 → Rtext σ τ t
def Rv (σ τ : pS) : Prop := isV (vl σ) = true ∧ isV (vs σ) = true ∧ vl σ ≠ vs σ ∧ pI σ (vl σ) 0 = pI τ 0 10 ∧ pI σ (vl σ) 1 = pI τ 0 12 ∧ pI σ (vl σ) 2 = pI τ 0 14 ∧
  (∀ p, p < tn τ → pI σ (vl σ + 1) p = pI τ 7 (4 * p) ∧ pI σ (vl σ + 2) p = pI τ 7 (4 * p + 1) ∧ pI σ (vl σ + 3) p = pI τ 7 (4 * p + 2) ∧ pI σ (vl σ + 4) p = pI τ 7 (4 * p + 3)) ∧
  (∀ d, d < td τ → pI σ (vl σ + 5) d = pI τ 8 (5 * d) ∧ pI σ (vl σ + 6) d = pI τ 8 (5 * d + 1) ∧ pI σ (vl σ + 7) d = pI τ 8 (5 * d + 2) ∧ pI σ (vl σ + 8) d = pI τ 8 (5 * d + 3) ∧ pI σ 9 d = pI τ 8 (5 * d + 4))
def okP (τ : pS) (p : Nat) : Prop := ∃ k, k < 6 ∧ pI τ 7 (4 * p) = nI k ∧ ((k = 3 ∨ k = 4) → ∃ m, m < tn τ ∧ pI τ 7 (4 * p + 1) = nI m) ∧ (¬ (k = 3 ∨ k = 4) → pI τ 7 (4 * p + 1) = -9) ∧ (∃ o, o < 4096 ∧ pI τ 7 (4 * p + 2) = nI o) ∧ ∃ c, c ≤ 99 ∧ pI τ 7 (4 * p + 3) = nI c
def okH (x : Int32) : Prop := x = -9 ∨ ∃ t, t < 12 ∧ x = nI t
def okD (τ : pS) (d : Nat) : Prop := ∃ x y v i, x < tn τ ∧ y < tn τ ∧ x ≠ y ∧ 1 ≤ v ∧ v ≤ 99 ∧ i ≤ 9 ∧ pI τ 8 (5 * d) = nI x ∧ pI τ 8 (5 * d + 1) = nI y ∧ pI τ 8 (5 * d + 2) = nI v ∧ pI τ 8 (5 * d + 3) = nI i ∧ okH (pI τ 8 (5 * d + 4))
def Ro (τ : pS) : Prop := tn τ ≤ 6 ∧ td τ ≤ 8 ∧ pI τ 0 10 = nI (tn τ) ∧ pI τ 0 12 = nI (td τ) ∧ (∃ w, w < 4 ∧ pI τ 0 14 = nI w) ∧ (∀ p, p < tn τ → okP τ p) ∧ ∀ d, d < td τ → okD τ d
def Rk (σ τ : pS) : Prop := ∀ k, k < 3 → (pI σ 11 k = 0 ∧ pI τ 16 k = 0) ∨ (pI σ 11 k = 1 ∧ pI τ 16 k = 1 ∧ ∀ d, d < td τ → pI σ (30 + k) d = pI τ 17 (8 * k + d) ∧ okH (pI τ 17 (8 * k + d)))
def Rf (σ τ : pS) : Prop := pI σ 3 0 = nI (td τ) ∧ pI σ 3 1 = nI (2 ^ td τ - 1) ∧ ∀ s, s < 2 ^ td τ → pI σ 12 s = b2i (fitT τ s (td τ)) ∧ pI σ 13 s = nI (rateT τ s (td τ))
def RR (σ τ : pS) : Prop := Rs σ τ ∧ Rr σ τ ∧ Rt σ τ ∧ Rv σ τ ∧ Ro τ ∧ Rk σ τ ∧ Rf σ τ
/-! frames: σ' is like σ in all that the relation reads beyond the scalars; τ' like τ: rows, texts, the rest -/
def LXr (σ σ' : pS) : Prop := ∀ e, (e = 5 ∨ (20 ≤ e ∧ e < 26)) → ∀ i, pI σ' e i = pI σ e i
def LXt (σ σ' : pS) : Prop := ∀ e, (e = 7 ∨ (26 ≤ e ∧ e < 30)) → ∀ i, pI σ' e i = pI σ e i
def LXa (σ σ' : pS) : Prop := (∀ e, (e = 9 ∨ e = 11 ∨ e = 12 ∨ e = 13 ∨ (30 ≤ e ∧ e < 33) ∨ (vl σ ≤ e ∧ e ≤ vl σ + 8)) → ∀ i, pI σ' e i = pI σ e i) ∧ pI σ' 3 0 = pI σ 3 0 ∧ pI σ' 3 1 = pI σ 3 1 ∧ pR σ' 0 8 = pR σ 0 8 ∧ pR σ' 1 4 = pR σ 1 4
def LMr (τ τ' : pS) : Prop := ∀ e, (e = 2 ∨ e = 3) → ∀ i, pI τ' e i = pI τ e i
def LMt (τ τ' : pS) : Prop := ∀ e, (e = 5 ∨ e = 6) → ∀ i, pI τ' e i = pI τ e i
def LM (τ τ' : pS) : Prop := (∀ e, (e = 7 ∨ e = 8 ∨ e = 16 ∨ e = 17) → ∀ i, pI τ' e i = pI τ e i) ∧ pI τ' 0 10 = pI τ 0 10 ∧ pI τ' 0 12 = pI τ 0 12 ∧ pI τ' 0 14 = pI τ 0 14
theorem LM_tn {τ τ' : pS} (h : LM τ τ') : tn τ' = tn τ := by unfold tn; rw [h.2.1]
theorem LM_td {τ τ' : pS} (h : LM τ τ') : td τ' = td τ := by unfold td; rw [h.2.2.1]
theorem clash_like {τ τ' : pS} (h : ∀ i, pI τ' 8 i = pI τ 8 i) (d e : Nat) : clashT τ' d e = clashT τ d e := by unfold clashT; simp only [h]
theorem fit_like {τ τ' : pS} (h : ∀ i, pI τ' 8 i = pI τ 8 i) (s n : Nat) : fitT τ' s n = fitT τ s n := by unfold fitT; simp only [clash_like h]
theorem rate_like {τ τ' : pS} (h : ∀ i, pI τ' 8 i = pI τ 8 i) (s : Nat) : ∀ n, rateT τ' s n = rateT τ s n
  | 0 => rfl
  | n + 1 => by unfold rateT; rw [rate_like h s n, h]
theorem Rrow_frame {σ σ' τ τ' : pS} {r : Nat} (h : Rrow σ τ r) (e5 : pI σ' 5 r = pI σ 5 r) (e2 : pI τ' 2 r = pI τ 2 r) (e20 : ∀ i, pI σ' (20 + r) i = pI σ (20 + r) i) (e3 : ∀ i, i < 60 → pI τ' 3 (60 * r + i) = pI τ 3 (60 * r + i)) : Rrow σ' τ' r := by
  rcases h with h | ⟨s, h1, h2, h3, h4⟩
  · exact Or.inl (by rw [e5, e2]; exact h)
  · exact Or.inr ⟨s, h1, by rw [e5]; exact h2, by rw [e2]; exact h3, fun i hi => by rw [e20, e3 i (by omega)]; exact h4 i hi⟩
theorem Rtext_frame {σ σ' τ τ' : pS} {r : Nat} (h : Rtext σ τ r) (e5 : pI σ' 7 r = pI σ 7 r) (e2 : pI τ' 5 r = pI τ 5 r) (e20 : ∀ i, pI σ' (26 + r) i = pI σ (26 + r) i) (e3 : ∀ i, i < 120 → pI τ' 6 (120 * r + i) = pI τ 6 (120 * r + i)) : Rtext σ' τ' r := by
  rcases h with h | ⟨s, h1, h2, h3, h4⟩
  · exact Or.inl (by rw [e5, e2]; exact h)
  · exact Or.inr ⟨s, h1, by rw [e5]; exact h2, by rw [e2]; exact h3, fun i hi => by rw [e20, e3 i (by omega)]; exact h4 i hi⟩
theorem Rr_frame {σ σ' τ τ' : pS} (h : Rr σ τ) (hx : LXr σ σ') (hm : LMr τ τ') : Rr σ' τ' := by
  intro r hr
  have e5 := hx 5 (by omega) r
  have e2 := hm 2 (by omega) r
  have e20 := hx (20 + r) (by omega)
  have e3 := hm 3 (by omega)
  rcases h r hr with h | ⟨s, h1, h2, h3, h4⟩
  · exact Or.inl (by rw [e5, e2]; exact h)
  · exact Or.inr ⟨s, h1, by rw [e5]; exact h2, by rw [e2]; exact h3, fun i hi => by rw [e20, e3]; exact h4 i hi⟩
theorem Rt_frame {σ σ' τ τ' : pS} (h : Rt σ τ) (hx : LXt σ σ') (hm : LMt τ τ') : Rt σ' τ' := by
  intro r hr
  have e5 := hx 7 (by omega) r
  have e2 := hm 5 (by omega) r
  have e20 := hx (26 + r) (by omega)
  have e3 := hm 6 (by omega)
  rcases h r hr with h | ⟨s, h1, h2, h3, h4⟩
  · exact Or.inl (by rw [e5, e2]; exact h)
  · exact Or.inr ⟨s, h1, by rw [e5]; exact h2, by rw [e2]; exact h3, fun i hi => by rw [e20, e3]; exact h4 i hi⟩
theorem Rv_frame {σ σ' τ τ' : pS} (h : Rv σ τ) (hx : LXa σ σ') (hm : LM τ τ') : Rv σ' τ' := by
  have ev : vl σ' = vl σ := hx.2.2.2.1
  have es : vs σ' = vs σ := hx.2.2.2.2
  have e7 := hm.1 7 (by omega)
  have e8 := hm.1 8 (by omega)
  have q : ∀ k, k ≤ 8 → ∀ i, pI σ' (vl σ + k) i = pI σ (vl σ + k) i := fun k hk => hx.1 (vl σ + k) (by omega)
  have q9 := hx.1 9 (by omega)
  obtain ⟨h1, h2, h3, h4, h5, h6, h7, h8⟩ := h
  unfold Rv
  rw [ev, es, LM_tn hm, LM_td hm]
  have q0 := q 0 (by omega)
  rw [Nat.add_zero] at q0
  refine ⟨h1, h2, h3, by rw [q0, hm.2.1]; exact h4, by rw [q0, hm.2.2.1]; exact h5, by rw [q0, hm.2.2.2]; exact h6, fun p hp => ?_, fun d hd => ?_⟩
  · rw [q 1 (by omega), q 2 (by omega), q 3 (by omega), q 4 (by omega), e7, e7, e7, e7]; exact h7 p hp
  · rw [q 5 (by omega), q 6 (by omega), q 7 (by omega), q 8 (by omega), q9, e8, e8, e8, e8, e8]; exact h8 d hd
theorem Ro_frame {τ τ' : pS} (h : Ro τ) (hm : LM τ τ') : Ro τ' := by
  have e7 := hm.1 7 (by omega)
  have e8 := hm.1 8 (by omega)
  obtain ⟨h1, h2, h3, h4, h5, h6, h7⟩ := h
  unfold Ro okP okD
  rw [LM_tn hm, LM_td hm, hm.2.1, hm.2.2.1, hm.2.2.2]
  simp only [e7, e8]
  exact ⟨h1, h2, h3, h4, h5, h6, h7⟩
theorem Rk_frame {σ σ' τ τ' : pS} (h : Rk σ τ) (hx : LXa σ σ') (hm : LM τ τ') : Rk σ' τ' := by
  intro k hk
  have e11 := hx.1 11 (by omega) k
  have e16 := hm.1 16 (by omega) k
  have e30 := hx.1 (30 + k) (by omega)
  have e17 := hm.1 17 (by omega)
  rw [LM_td hm, e11, e16]
  simp only [e30, e17]
  exact h k hk
theorem Rf_frame {σ σ' τ τ' : pS} (h : Rf σ τ) (hx : LXa σ σ') (hm : LM τ τ') : Rf σ' τ' := by
  have e12 := hx.1 12 (by omega)
  have e13 := hx.1 13 (by omega)
  have e8 := hm.1 8 (by omega)
  unfold Rf
  rw [LM_td hm, hx.2.1, hx.2.2.1]
  simp only [e12, e13, fit_like e8, rate_like e8]
  exact h
theorem RR_frame {σ σ' τ τ' : pS} (h : RR σ τ) (hr : LXr σ σ') (ht : LXt σ σ') (hx : LXa σ σ') (mr : LMr τ τ') (mt : LMt τ τ') (hm : LM τ τ') (hs : Rs σ' τ') : RR σ' τ' := ⟨hs, Rr_frame h.2.1 hr mr, Rt_frame h.2.2.1 ht mt, Rv_frame h.2.2.2.1 hx hm, Ro_frame h.2.2.2.2.1 hm, Rk_frame h.2.2.2.2.2.1 hx hm, Rf_frame h.2.2.2.2.2.2 hx hm⟩
def LX (σ σ' : pS) : Prop := LXr σ σ' ∧ LXt σ σ' ∧ LXa σ σ'
def LY (τ τ' : pS) : Prop := LMr τ τ' ∧ LMt τ τ' ∧ LM τ τ'
theorem RR_fr {σ σ' τ τ' : pS} (h : RR σ τ) (hx : LX σ σ') (hm : LY τ τ') (hs : Rs σ' τ') : RR σ' τ' := RR_frame h hx.1 hx.2.1 hx.2.2 hm.1 hm.2.1 hm.2.2 hs
theorem LX_rf {σ : pS} : LX σ σ := ⟨fun _ _ _ => rfl, fun _ _ _ => rfl, fun _ _ _ => rfl, rfl, rfl, rfl, rfl⟩
theorem LY_rf {τ : pS} : LY τ τ := ⟨fun _ _ _ => rfl, fun _ _ _ => rfl, fun _ _ _ => rfl, rfl, rfl, rfl⟩
theorem vl_ge {σ τ : pS} (h : Rv σ τ) : 46 ≤ vl σ := by rcases isV_or h.1 with e | e <;> omega
/-! finding and told -/
theorem LX_low {σ : pS} (hv : 46 ≤ vl σ) {e i : Nat} {v : Int32} (he : e = 0 ∨ e = 1 ∨ e = 8 ∨ e = 14 ∨ e = 16 ∨ e = 18 ∨ (33 ≤ e ∧ e < 46) ∨ (e = 3 ∧ 2 ≤ i)) : LX σ (sI σ e i v) := by
  refine ⟨fun e' he' j => pI_sI_ne (by omega), fun e' he' j => pI_sI_ne (by omega), fun e' he' j => pI_sI_ne (by omega), ?_, ?_, rfl, rfl⟩
  · rw [pI_sI, if_neg (by omega)]
  · rw [pI_sI, if_neg (by omega)]
theorem LY_low {τ : pS} {e i : Nat} {v : Int32} (he : e = 1 ∨ e = 4 ∨ e = 9 ∨ e = 10 ∨ e = 11 ∨ e = 12 ∨ e = 14 ∨ e = 15 ∨ (e = 0 ∧ i ≠ 10 ∧ i ≠ 12 ∧ i ≠ 14)) : LY τ (sI τ e i v) := by
  refine ⟨fun e' he' j => pI_sI_ne (by omega), fun e' he' j => pI_sI_ne (by omega), fun e' he' j => pI_sI_ne (by omega), ?_, ?_, ?_⟩ <;> rw [pI_sI, if_neg (by omega)]
theorem LXa_tr {a b c : pS} (h1 : LXa a b) (h2 : LXa b c) : LXa a c := by
  have e : vl b = vl a := h1.2.2.2.1
  refine ⟨fun x hx i => ?_, h2.2.1.trans h1.2.1, h2.2.2.1.trans h1.2.2.1, h2.2.2.2.1.trans h1.2.2.2.1, h2.2.2.2.2.trans h1.2.2.2.2⟩
  rw [h2.1 x (by rw [e]; exact hx) i, h1.1 x hx i]
theorem LX_tr {a b c : pS} (h1 : LX a b) (h2 : LX b c) : LX a c := ⟨fun x hx i => by rw [h2.1 x hx i, h1.1 x hx i], fun x hx i => by rw [h2.2.1 x hx i, h1.2.1 x hx i], LXa_tr h1.2.2 h2.2.2⟩
theorem LY_tr {a b c : pS} (h1 : LY a b) (h2 : LY b c) : LY a c := ⟨fun x hx i => by rw [h2.1 x hx i, h1.1 x hx i], fun x hx i => by rw [h2.2.1 x hx i, h1.2.1 x hx i], fun x hx i => by rw [h2.2.2.1 x hx i, h1.2.2.1 x hx i], h2.2.2.2.1.trans h1.2.2.2.1, h2.2.2.2.2.1.trans h1.2.2.2.2.1, h2.2.2.2.2.2.trans h1.2.2.2.2.2⟩
theorem RR_told {σ τ : pS} (h : RR σ τ) (v : Int32) : RR (sI σ 0 9 v) (sI τ 0 2 v) := by
  refine RR_fr h (LX_low (vl_ge h.2.2.2.1) (by omega)) (LY_low (by omega)) ?_
  obtain ⟨h1, h2, h3, h4, h5⟩ := h.1
  refine ⟨by rw [pI_sI_eq, pI_sI_eq], h2, h3, by rw [pI_sI_nj (by decide), pI_sI_nj (by decide)]; exact h4, fun f hf => by rw [pI_sI_ne (by decide), pI_sI_ne (by decide)]; exact h5 f hf⟩
def xfind (σ : pS) (f : Nat) : pS := sI (sI σ 0 12 (nI f)) 8 f (pI (sI σ 0 12 (nI f)) 8 f + 1)
def mfind (τ : pS) (f : Nat) : pS := sI (sI τ 0 0 (nI f)) 1 f (pI (sI τ 0 0 (nI f)) 1 f + 1)
theorem xfind_eq {σ : pS} {f : Nat} (hf : f < 6) {c : Int32} (hc : c = nI f) : fX4_find σ c = some (-3, xfind σ f) := by
  subst hc
  have hp : pin (nI f) 6 = true := pin_lit hf (by decide)
  have hc : (nI f).toNatClampNeg = f := nI_clamp (by omega)
  unfold fX4_find xfind
  simp only [plet_eq, hp, if_true, hc]
theorem mfind_eq {τ : pS} {f : Nat} (hf : f < 6) {c : Int32} (hc : c = nI f) : fX5_meets τ c = some (-3, mfind τ f) := by
  subst hc
  have hp : pin (nI f) 6 = true := pin_lit hf (by decide)
  have hc : (nI f).toNatClampNeg = f := nI_clamp (by omega)
  unfold fX5_meets mfind
  simp only [plet_eq, hp, if_true, hc]
theorem RR_find {σ τ : pS} (h : RR σ τ) {f : Nat} (hf : f < 6) : RR (xfind σ f) (mfind τ f) := by
  have hv := vl_ge h.2.2.2.1
  refine RR_fr h (LX_tr (LX_low hv (by omega)) (LX_low (by exact hv) (by omega))) (LY_tr (LY_low (by omega)) (LY_low (by omega))) ?_
  obtain ⟨h1, h2, h3, h4, h5⟩ := h.1
  unfold xfind mfind
  refine ⟨by rw [pI_sI_ne (by decide), pI_sI_nj (by decide), pI_sI_ne (by decide), pI_sI_nj (by decide)]; exact h1, h2, h3, by rw [pI_sI_ne (by decide), pI_sI_eq, pI_sI_ne (by decide), pI_sI_eq], fun g hg => ?_⟩
  by_cases e : g = f
  · subst e
    rw [pI_sI_eq, pI_sI_eq, pI_sI_ne (by decide), pI_sI_ne (by decide), h5 g hg]
  · rw [pI_sI_nj e, pI_sI_nj e, pI_sI_ne (by decide), pI_sI_ne (by decide)]
    exact h5 g hg
theorem xf1 {σ : pS} : fX4_find σ 1 = some (-3, xfind σ 1) := xfind_eq (by decide) rfl
theorem xf2 {σ : pS} : fX4_find σ 2 = some (-3, xfind σ 2) := xfind_eq (by decide) rfl
theorem xf3 {σ : pS} : fX4_find σ 3 = some (-3, xfind σ 3) := xfind_eq (by decide) rfl
theorem xf4 {σ : pS} : fX4_find σ 4 = some (-3, xfind σ 4) := xfind_eq (by decide) rfl
theorem xf5 {σ : pS} : fX4_find σ 5 = some (-3, xfind σ 5) := xfind_eq (by decide) rfl
theorem mf1 {τ : pS} : fX5_meets τ 1 = some (-3, mfind τ 1) := mfind_eq (by decide) rfl
theorem mf2 {τ : pS} : fX5_meets τ 2 = some (-3, mfind τ 2) := mfind_eq (by decide) rfl
theorem mf3 {τ : pS} : fX5_meets τ 3 = some (-3, mfind τ 3) := mfind_eq (by decide) rfl
theorem mf4 {τ : pS} : fX5_meets τ 4 = some (-3, mfind τ 4) := mfind_eq (by decide) rfl
theorem mf5 {τ : pS} : fX5_meets τ 5 = some (-3, mfind τ 5) := mfind_eq (by decide) rfl
theorem i10 : ¬ ((1 : Int32) = 0) := by decide
/-- one row changes: its size and its contents -/
theorem RR_row1 {σ σ' τ τ' : pS} {k : Nat} (h : RR σ τ) (hk : k < 6) (hx : ∀ e i, e ≠ 5 → e ≠ 20 + k → pI σ' e i = pI σ e i) (h5 : ∀ r, r ≠ k → pI σ' 5 r = pI σ 5 r) (hL : ∀ e i, pL σ' e i = pL σ e i) (hR : ∀ e i, pR σ' e i = pR σ e i) (ht : ∀ e i, e ≠ 2 → e ≠ 3 → pI τ' e i = pI τ e i) (h2 : ∀ r, r ≠ k → pI τ' 2 r = pI τ 2 r) (h3 : ∀ r i, r ≠ k → i < 60 → pI τ' 3 (60 * r + i) = pI τ 3 (60 * r + i)) (hM : ∀ e i, pL τ' e i = pL τ e i) (hn : Rrow σ' τ' k) : RR σ' τ' := by
  have hv := vl_ge h.2.2.2.1
  have hxa : LXa σ σ' := ⟨fun e he i => hx e i (by omega) (by omega), hx 3 0 (by omega) (by omega), hx 3 1 (by omega) (by omega), hR 0 8, hR 1 4⟩
  have hxt : LXt σ σ' := fun e he i => hx e i (by omega) (by omega)
  have hma : LM τ τ' := ⟨fun e he i => ht e i (by omega) (by omega), ht 0 10 (by omega) (by omega), ht 0 12 (by omega) (by omega), ht 0 14 (by omega) (by omega)⟩
  have hmt : LMt τ τ' := fun e he i => ht e i (by omega) (by omega)
  refine ⟨?_, fun r hr => ?_, Rt_frame h.2.2.1 hxt hmt, Rv_frame h.2.2.2.1 hxa hma, Ro_frame h.2.2.2.2.1 hma, Rk_frame h.2.2.2.2.2.1 hxa hma, Rf_frame h.2.2.2.2.2.2 hxa hma⟩
  · unfold Rs
    rw [hx 0 9 (by omega) (by omega), hx 0 12 (by omega) (by omega), hL, hL, ht 0 2 (by omega) (by omega), ht 0 0 (by omega) (by omega), hM, hM]
    obtain ⟨a1, a2, a3, a4, a5⟩ := h.1
    exact ⟨a1, a2, a3, a4, fun f hf => by rw [hx 8 f (by omega) (by omega), ht 1 f (by omega) (by omega)]; exact a5 f hf⟩
  · by_cases e : r = k
    · rw [e]; exact hn
    · exact Rrow_frame (h.2.1 r hr) (h5 r e) (h2 r e) (fun i => hx (20 + r) i (by omega) (by omega)) (fun i hi => h3 r i e hi)
theorem RR_text1 {σ σ' τ τ' : pS} {k : Nat} (h : RR σ τ) (hk : k < 4) (hx : ∀ e i, e ≠ 7 → e ≠ 26 + k → pI σ' e i = pI σ e i) (h5 : ∀ r, r ≠ k → pI σ' 7 r = pI σ 7 r) (hL : ∀ e i, pL σ' e i = pL σ e i) (hR : ∀ e i, pR σ' e i = pR σ e i) (ht : ∀ e i, e ≠ 5 → e ≠ 6 → pI τ' e i = pI τ e i) (h2 : ∀ r, r ≠ k → pI τ' 5 r = pI τ 5 r) (h3 : ∀ r i, r ≠ k → i < 120 → pI τ' 6 (120 * r + i) = pI τ 6 (120 * r + i)) (hM : ∀ e i, pL τ' e i = pL τ e i) (hn : Rtext σ' τ' k) : RR σ' τ' := by
  have hv := vl_ge h.2.2.2.1
  have hxa : LXa σ σ' := ⟨fun e he i => hx e i (by omega) (by omega), hx 3 0 (by omega) (by omega), hx 3 1 (by omega) (by omega), hR 0 8, hR 1 4⟩
  have hxt : LXr σ σ' := fun e he i => hx e i (by omega) (by omega)
  have hma : LM τ τ' := ⟨fun e he i => ht e i (by omega) (by omega), ht 0 10 (by omega) (by omega), ht 0 12 (by omega) (by omega), ht 0 14 (by omega) (by omega)⟩
  have hmt : LMr τ τ' := fun e he i => ht e i (by omega) (by omega)
  refine ⟨?_, Rr_frame h.2.1 hxt hmt, fun r hr => ?_, Rv_frame h.2.2.2.1 hxa hma, Ro_frame h.2.2.2.2.1 hma, Rk_frame h.2.2.2.2.2.1 hxa hma, Rf_frame h.2.2.2.2.2.2 hxa hma⟩
  · unfold Rs
    rw [hx 0 9 (by omega) (by omega), hx 0 12 (by omega) (by omega), hL, hL, ht 0 2 (by omega) (by omega), ht 0 0 (by omega) (by omega), hM, hM]
    obtain ⟨a1, a2, a3, a4, a5⟩ := h.1
    exact ⟨a1, a2, a3, a4, fun f hf => by rw [hx 8 f (by omega) (by omega), ht 1 f (by omega) (by omega)]; exact a5 f hf⟩
  · by_cases e : r = k
    · rw [e]; exact hn
    · exact Rtext_frame (h.2.2.1 r hr) (h5 r e) (h2 r e) (fun i => hx (26 + r) i (by omega) (by omega)) (fun i hi => h3 r i e hi)
