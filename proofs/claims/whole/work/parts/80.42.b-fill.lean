/-! Arrays.fill over a world of one int array -/
def wA (n : Nat) : pW := (fun _ => .inr (0, n, 0), 1, false)
def lA_fill_5 (n0 : Nat) (p0 : Nat) (p1 : Int32) (p3 : Int32) (k20 : pS → Option (Unit × pS)) : Nat → Int32 → pS → Option (Unit × pS)
  | 0, _, _ => none
  | F + 1, v2, σ =>
    if p3 ≤ v2 then
      k20 σ
    else
      if isA (wA n0) 0 p0 then
        if pin v2 (alen (wA n0) p0) then
          plet (sI σ p0 (v2).toNatClampNeg p1) fun σ10 =>
          lA_fill_5 n0 p0 p1 p3 k20 F (v2 + (1 : Int32)) σ10
        else none
      else none
set_option maxHeartbeats 4000000 in
set_option maxRecDepth 100000 in
theorem lA_fill_5_ok (n0 : Nat) {h : Nat → Nat} {X : Cx} {l0 : Launch} {D0 : va_G} {K0 : Nat → ClassId} (p0 : Nat) (p1 : Int32) (p3 : Int32) {k20 : pS → Option (Unit × pS)} {r : Unit} {u : pS} (C : Cok (wA n0) h X l0 ({ frames := 0, cells := 0, slots := 0, locals := 0 } : Room) D0 K0 cJ7_fill_53178 4 RJ7 wsJ7_fill_53178) (hret : ∀ (pc : Nat) (lv' : List (Nat × Value)), decode cJ7_fill_53178 pc = .ok (.return_, 1) → G (wA n0) h X pc lv' [] u) (hk20 : ∀  (σ : pS), k20 σ = some (r, u) → G (wA n0) h X 20 [] [] σ) : ∀ (F : Nat) (v2 : Int32) (σ : pS), lA_fill_5 n0 p0 p1 p3 k20 F v2 σ = some (r, u) → G (wA n0) h X 5 [(0, .ref (h p0)), (1, .int p1), (2, .int v2), (3, .int p3)] [] σ := by
  intro F
  induction F with
  | zero => intro v2 σ hf; exact absurd hf (by simp [lA_fill_5])
  | succ F ih =>
    intro v2 σ hf
    rw [lA_fill_5.eq_2] at hf
    refine g_iload_n C 2 dJ7_fill_53178_5 rfl rfl ?_
    refine g_iload_n C 3 dJ7_fill_53178_6 rfl rfl ?_
    refine g_icmp_ge (tgt := 20) hf C dJ7_fill_53178_7 (by decide) (fun hf => ?_) (fun hf => ?_)
    · refine g_lv [] rfl ?_
      exact hk20 σ hf
    · refine g_aload_n C 0 dJ7_fill_53178_10 rfl rfl ?_
      refine g_iload_n C 2 dJ7_fill_53178_11 rfl rfl ?_
      refine g_iload_n C 1 dJ7_fill_53178_12 rfl rfl ?_
      obtain ⟨hg6, hf⟩ := g_guard hf
      obtain ⟨b7, he8, hl9⟩ := isA_spec hg6
      refine g_iast hf C he8 hl9 dJ7_fill_53178_13 (fun hf => ?_)
      refine g_lets hf (fun σ10 hf => ?_)
      refine g_iinc C 2 [1, 2, 0, 3] dJ7_fill_53178_14 rfl ic_1 (Nat.le_of_ble_eq_true rfl) rfl ?_
      refine g_goto (tgt := 5) C dJ7_fill_53178_17 (by decide) ?_
      exact ih (v2 + (1 : Int32)) σ10 hf
def fA_fill (n0 : Nat) (σ : pS) (a1 : Nat) (a2 : Int32) : Option (Unit × pS) :=
  if isA (wA n0) 0 a1 then
    plet (Int32.ofNat (alen (wA n0) a1)) fun x5 =>
    lA_fill_5 n0 a1 a2 x5
      (fun (σ11 : pS) =>
        some ((), σ11))
      FU (0 : Int32) σ
  else none
set_option maxHeartbeats 4000000 in
set_option maxRecDepth 100000 in
theorem mA_fill (n0 : Nat) (l0 : Launch) (D0 : va_G) (K0 : Nat → ClassId) (h : Nat → Nat) (σ : pS) (a1 : Nat) (a2 : Int32) {r : Unit} {u : pS} (hf : fA_fill n0 σ a1 a2 = some (r, u)) : Met l0 yJ7_fill_53178 wsJ7_fill_53178 ({ frames := 0, cells := 0, slots := 0, locals := 0 } : Room) (va_Pc [.ref (h a1), .int a2] (pIn (wA n0) D0 K0 h σ)) (va_Qv (fun u' => u' = u) (pOut (wA n0) D0 K0 h) (pA (wA n0) h)) 0 0 (pA (wA n0) h) := by
  refine p_metV (lv := [(0, .ref (h a1)), (1, .int a2)]) (by decide +kernel) rfl rfl (Nat.le_of_ble_eq_true rfl) rfl (fun X C hret => ?_)
  unfold fA_fill at hf
  refine g_iconst C dJ7_fill_53178_0 ic_0 ?_
  refine g_istore_n C [1, 2, 0] dJ7_fill_53178_1 rfl (Nat.le_of_ble_eq_true rfl) rfl ?_
  refine g_aload_n C 0 dJ7_fill_53178_2 rfl rfl ?_
  obtain ⟨hg1, hf⟩ := g_guard hf
  obtain ⟨b2, he3, hl4⟩ := isA_spec hg1
  refine g_alen C he3 hl4 rfl dJ7_fill_53178_3 ?_
  refine g_leti hf (fun x5 hf => ?_)
  refine g_istore_n C [1, 2, 3, 0] dJ7_fill_53178_4 rfl (Nat.le_of_ble_eq_true rfl) rfl ?_
  refine lA_fill_5_ok n0 a1 a2 x5 C hret (fun σ11 hf => ?_) FU (0 : Int32) σ hf
  exact g_retvW hf hret dJ7_fill_53178_20
theorem lA_fill_run (n0 : Nat) (v : Int32) (hn : n0 < 1000) (k : pS → Option (Unit × pS)) : ∀ (q j F : Nat) (σ : pS), j + q = n0 → q < F → (∀ i, i < j → σ.1 0 i = v) → ∃ σ', lA_fill_5 n0 0 v (Int32.ofNat n0) k F (nI j) σ = k σ' ∧ ∀ i, i < n0 → σ'.1 0 i = v := by
  intro q
  induction q with
  | zero =>
    intro j F σ hj hF hv
    obtain ⟨F, rfl⟩ : ∃ G, F = G + 1 := ⟨F - 1, by omega⟩
    refine ⟨σ, ?_, by rw [← hj]; simpa using hv⟩
    rw [lA_fill_5.eq_2, if_pos (show Int32.ofNat n0 ≤ nI j from nI_le (by omega) (by omega))]
  | succ q ih =>
    intro j F σ hj hF hv
    obtain ⟨F, rfl⟩ : ∃ G, F = G + 1 := ⟨F - 1, by omega⟩
    have hpin : pin (nI j) n0 = true := by
      simp only [pin, nI_pos (show j < 2 ^ 31 by omega), nI_clamp (show j < 2 ^ 31 by omega)]
      simp
      omega
    obtain ⟨σ', h1, h2⟩ := ih (j + 1) F (sI σ 0 j v) (by omega) (by omega) (fun i hi => by
      simp only [sI, if_pos, upd]
      by_cases e : i = j
      · simp [e]
      · simp [e]; exact hv i (by omega))
    refine ⟨σ', ?_, h2⟩
    rw [lA_fill_5.eq_2, if_neg (show ¬ Int32.ofNat n0 ≤ nI j from fun z => absurd z (nI_ge (by omega) (by omega)))]
    have e1 : isA (wA n0) 0 0 = true := rfl
    have e2 : alen (wA n0) 0 = n0 := rfl
    rw [e1, e2, hpin]
    simp only [if_true, plet, nI_clamp (show j < 2 ^ 31 by omega), nI_1]
    exact h1
theorem fA_fill_ok (n0 : Nat) (hn : n0 < 900) (σ : pS) (v : Int32) : ∃ u, fA_fill n0 σ 0 v = some ((), u) ∧ ∀ i, i < n0 → u.1 0 i = v := by
  obtain ⟨u, h1, h2⟩ := lA_fill_run n0 v (by omega) (fun σ => some ((), σ)) n0 0 FU σ (by omega) (by simp [FU]; omega) (fun i hi => absurd hi (Nat.not_lt_zero i))
  refine ⟨u, ?_, h2⟩
  unfold fA_fill
  have e1 : isA (wA n0) 0 0 = true := rfl
  have e2 : alen (wA n0) 0 = n0 := rfl
  rw [e1, e2]
  simp only [if_true, plet]
  exact h1
