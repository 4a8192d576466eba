/-! X5_canPay -/
theorem ddX5_canPay : yX5_canPay.cls = RX5 ∧ yX5_canPay.cls ≠ "java/lang/invoke/MethodHandle" ∧ yX5_canPay.cls ≠ "java/lang/invoke/VarHandle" ∧ (parseMethodDescriptor yX5_canPay.desc).map (fun d => d.parameters.length) = some 2 := by decide +kernel
set_option maxHeartbeats 4000000 in
set_option maxRecDepth 100000 in
theorem mX5_canPay (l0 : Launch) (D0 : va_G) (K0 : Nat → ClassId) (h : Nat → Nat) (σ : pS) (a1 : Int32) (a2 : Int32) {r : Int32} (hf : fX5_canPay σ a1 a2 = some r) : Met l0 yX5_canPay wsX5_canPay ({ frames := 4, cells := 0, slots := 0, locals := 88 } : Room) (va_Pc [.ref (h 0), .int a1, .int a2] (pIn wM D0 K0 h σ)) (va_Qi (fun r' u' => r' = r ∧ u' = σ) (pOut wM D0 K0 h) (pA wM h)) 0 0 (pA wM h) := by
  refine p_metZ (lv := [(0, .ref (h 0)), (1, .int a1), (2, .int a2)]) (by decide +kernel) rfl rfl (Nat.le_of_ble_eq_true rfl) rfl (fun X C hret => ?_)
  unfold fX5_canPay at hf
  refine g_aload_n C 0 dX5_canPay_0 rfl rfl ?_
  refine g_aload_n C 0 dX5_canPay_1 rfl rfl ?_
  refine g_iload_n C 1 dX5_canPay_2 rfl rfl ?_
  refine g_iconst C dX5_canPay_3 ic_0 ?_
  obtain ⟨r2, hc1, hf⟩ := g_bind hf
  refine g_callVi C (mX5_debtAt l0 D0 K0 h σ a1 (0 : Int32) hc1) gX5_canPay_X5_debtAt rfl rfl rfl ddX5_debtAt ⟨(Nat.le_of_ble_eq_true rfl), (Nat.le_of_ble_eq_true rfl)⟩ rfl (Nat.le_of_ble_eq_true rfl) rfl rfl rfl (Nat.le_of_ble_eq_true rfl) dX5_canPay_4 ?_
  refine g_iload_n C 2 dX5_canPay_7 rfl rfl ?_
  obtain ⟨r4, hc3, hf⟩ := g_bind hf
  refine g_callVi C (mX5_isOut l0 D0 K0 h σ r2 a2 hc3) gX5_canPay_X5_isOut rfl rfl rfl ddX5_isOut ⟨(Nat.le_of_ble_eq_true rfl), (Nat.le_of_ble_eq_true rfl)⟩ rfl (Nat.le_of_ble_eq_true rfl) rfl rfl rfl (Nat.le_of_ble_eq_true rfl) dX5_canPay_8 ?_
  refine g_if_eq (tgt := 32) hf C dX5_canPay_11 (by decide) (fun hf => ?_) (fun hf => ?_)
  · refine g_iconst C dX5_canPay_32 ic_0 ?_
    exact g_retz hf (by decide) hret dX5_canPay_33
  · refine g_aload_n C 0 dX5_canPay_14 rfl rfl ?_
    refine g_aload_n C 0 dX5_canPay_15 rfl rfl ?_
    refine g_iload_n C 1 dX5_canPay_16 rfl rfl ?_
    refine g_iconst C dX5_canPay_17 ic_1 ?_
    obtain ⟨r6, hc5, hf⟩ := g_bind hf
    refine g_callVi C (mX5_debtAt l0 D0 K0 h σ a1 (1 : Int32) hc5) gX5_canPay_X5_debtAt rfl rfl rfl ddX5_debtAt ⟨(Nat.le_of_ble_eq_true rfl), (Nat.le_of_ble_eq_true rfl)⟩ rfl (Nat.le_of_ble_eq_true rfl) rfl rfl rfl (Nat.le_of_ble_eq_true rfl) dX5_canPay_18 ?_
    refine g_iload_n C 2 dX5_canPay_21 rfl rfl ?_
    obtain ⟨r8, hc7, hf⟩ := g_bind hf
    refine g_callVi C (mX5_isEmpty l0 D0 K0 h σ r6 a2 hc7) gX5_canPay_X5_isEmpty rfl rfl rfl ddX5_isEmpty ⟨(Nat.le_of_ble_eq_true rfl), (Nat.le_of_ble_eq_true rfl)⟩ rfl (Nat.le_of_ble_eq_true rfl) rfl rfl rfl (Nat.le_of_ble_eq_true rfl) dX5_canPay_22 ?_
    refine g_if_eq (tgt := 32) hf C dX5_canPay_25 (by decide) (fun hf => ?_) (fun hf => ?_)
    · refine g_iconst C dX5_canPay_32 ic_0 ?_
      exact g_retz hf (by decide) hret dX5_canPay_33
    · refine g_iconst C dX5_canPay_28 ic_1 ?_
      refine g_goto (tgt := 33) C dX5_canPay_29 (by decide) ?_
      exact g_retz hf (by decide) hret dX5_canPay_33
/-! X5_when -/
theorem ddX5_when : yX5_when.cls = RX5 ∧ yX5_when.cls ≠ "java/lang/invoke/MethodHandle" ∧ yX5_when.cls ≠ "java/lang/invoke/VarHandle" ∧ (parseMethodDescriptor yX5_when.desc).map (fun d => d.parameters.length) = some 1 := by decide +kernel
set_option maxHeartbeats 4000000 in
set_option maxRecDepth 100000 in
theorem lX5_when_14_ok {h : Nat → Nat} {X : Cx} {l0 : Launch} {D0 : va_G} {K0 : Nat → ClassId} (σ : pS) (p1 : Int32) {k45 : Int32 → Option Int32} {r : Int32} (C : Cok wM h X l0 ({ frames := 5, cells := 0, slots := 0, locals := 110 } : Room) D0 K0 cX5_when 4 RX5 wsX5_when) (hret : ∀ (pc : Nat) (lv' : List (Nat × Value)), decode cX5_when pc = .ok (.ireturn, 1) → G wM h X pc lv' [.int r] σ) (hk45 : ∀ (z2 : Int32), k45 z2 = some r → G wM h X 45 [(2, .int z2)] [] σ) : ∀ (F : Nat) (v2 : Int32) (v3 : Int32), lX5_when_14 σ p1 k45 F v2 v3 = some r → G wM h X 14 [(0, .ref (h 0)), (1, .int p1), (2, .int v2), (3, .int v3)] [] σ := by
  intro F
  induction F with
  | zero => intro v2 v3 hf; exact absurd hf (by simp [lX5_when_14])
  | succ F ih =>
    intro v2 v3 hf
    rw [lX5_when_14.eq_2] at hf
    refine g_iload_n C 3 dX5_when_14 rfl rfl ?_
    refine g_bipush C dX5_when_15 bp_12 ?_
    refine g_icmp_ge (tgt := 45) hf C dX5_when_17 (by decide) (fun hf => ?_) (fun hf => ?_)
    · refine g_lv [2] rfl ?_
      exact hk45 v2 hf
    · refine g_iload_n C 2 dX5_when_20 rfl rfl ?_
      refine g_aload_n C 0 dX5_when_21 rfl rfl ?_
      refine g_iload_n C 1 dX5_when_22 rfl rfl ?_
      refine g_iload_n C 3 dX5_when_23 rfl rfl ?_
      obtain ⟨r4, hc3, hf⟩ := g_bind hf
      refine g_callVi C (mX5_canPay l0 D0 K0 h σ p1 v3 hc3) gX5_when_X5_canPay rfl rfl rfl ddX5_canPay ⟨(Nat.le_of_ble_eq_true rfl), (Nat.le_of_ble_eq_true rfl)⟩ rfl (Nat.le_of_ble_eq_true rfl) rfl rfl rfl (Nat.le_of_ble_eq_true rfl) dX5_when_24 ?_
      refine g_join (P := fun j => ∀ (y6 : Int32), j y6 = some r → G wM h X 37 [(0, .ref (h 0)), (1, .int p1), (3, .int v3)] [.int y6, .int v2] σ) hf (fun y6 hf => ?_) (fun j5 hj5 hf => ?_)
      · refine g_ior C dX5_when_37 ?_
        refine g_leti hf (fun x7 hf => ?_)
        refine g_istore_n C [1, 2, 0, 3] dX5_when_38 rfl (Nat.le_of_ble_eq_true rfl) rfl ?_
        refine g_iinc C 3 [1, 2, 3, 0] dX5_when_39 rfl ic_1 (Nat.le_of_ble_eq_true rfl) rfl ?_
        refine g_goto (tgt := 14) C dX5_when_42 (by decide) ?_
        exact ih x7 (v3 + (1 : Int32)) hf
      · refine g_if_eq (tgt := 36) hf C dX5_when_27 (by decide) (fun hf => ?_) (fun hf => ?_)
        · refine g_iconst C dX5_when_36 ic_0 ?_
          refine g_lv [0, 1, 3] rfl ?_
          exact hj5 (0 : Int32) hf
        · refine g_iconst C dX5_when_30 ic_1 ?_
          refine g_iload_n C 3 dX5_when_31 rfl rfl ?_
          refine g_ishl C dX5_when_32 ?_
          refine g_goto (tgt := 37) C dX5_when_33 (by decide) ?_
          refine g_lv [0, 1, 3] rfl ?_
          exact hj5 ((1 : Int32) <<< (v3 &&& 31)) hf
set_option maxHeartbeats 4000000 in
set_option maxRecDepth 100000 in
theorem mX5_when (l0 : Launch) (D0 : va_G) (K0 : Nat → ClassId) (h : Nat → Nat) (σ : pS) (a1 : Int32) {r : Int32} (hf : fX5_when σ a1 = some r) : Met l0 yX5_when wsX5_when ({ frames := 5, cells := 0, slots := 0, locals := 110 } : Room) (va_Pc [.ref (h 0), .int a1] (pIn wM D0 K0 h σ)) (va_Qi (fun r' u' => r' = r ∧ u' = σ) (pOut wM D0 K0 h) (pA wM h)) 0 0 (pA wM h) := by
  refine p_metI (lv := [(0, .ref (h 0)), (1, .int a1)]) (by decide +kernel) rfl rfl (Nat.le_of_ble_eq_true rfl) rfl (fun X C hret => ?_)
  unfold fX5_when at hf
  refine g_aload_n C 0 dX5_when_0 rfl rfl ?_
  refine g_iload_n C 1 dX5_when_1 rfl rfl ?_
  obtain ⟨r2, hc1, hf⟩ := g_bind hf
  refine g_callVi C (mX5_isDebt l0 D0 K0 h σ a1 hc1) gX5_when_X5_isDebt rfl rfl rfl ddX5_isDebt ⟨(Nat.le_of_ble_eq_true rfl), (Nat.le_of_ble_eq_true rfl)⟩ rfl (Nat.le_of_ble_eq_true rfl) rfl rfl rfl (Nat.le_of_ble_eq_true rfl) dX5_when_2 ?_
  refine g_if_ne (tgt := 10) hf C dX5_when_5 (by decide) (fun hf => ?_) (fun hf => ?_)
  · refine g_iconst C dX5_when_10 ic_0 ?_
    refine g_istore_n C [1, 2, 0] dX5_when_11 rfl (Nat.le_of_ble_eq_true rfl) rfl ?_
    refine g_iconst C dX5_when_12 ic_0 ?_
    refine g_istore_n C [1, 2, 3, 0] dX5_when_13 rfl (Nat.le_of_ble_eq_true rfl) rfl ?_
    refine lX5_when_14_ok σ a1 C hret (fun y8 hf => ?_) FU (0 : Int32) (0 : Int32) hf
    refine g_iload_n C 0 dX5_when_45 rfl rfl ?_
    exact g_reti hf hret dX5_when_46
  · refine g_iconst C dX5_when_8 ic_m1 ?_
    exact g_reti hf hret dX5_when_9
/-! X5_payable -/
theorem in_X5_payable_X5 : ∀ q ∈ u_ws RX5 TX5 30, q ∈ wsX5_payable := by decide +kernel
theorem lk_X5_payable_0 : Cond.fieldLink RX5 143 "EmptyHouseModel" "debtMany" "I" ∈ wsX5_payable := by decide +kernel
theorem ddX5_payable : yX5_payable.cls = RX5 ∧ yX5_payable.cls ≠ "java/lang/invoke/MethodHandle" ∧ yX5_payable.cls ≠ "java/lang/invoke/VarHandle" ∧ (parseMethodDescriptor yX5_payable.desc).map (fun d => d.parameters.length) = some 1 := by decide +kernel
set_option maxHeartbeats 4000000 in
set_option maxRecDepth 100000 in
theorem lX5_payable_4_ok {h : Nat → Nat} {X : Cx} {l0 : Launch} {D0 : va_G} {K0 : Nat → ClassId} (σ : pS) (p1 : Int32) {k37 : Int32 → Option Int32} {r : Int32} (C : Cok wM h X l0 ({ frames := 5, cells := 0, slots := 0, locals := 110 } : Room) D0 K0 cX5_payable 4 RX5 wsX5_payable) (hret : ∀ (pc : Nat) (lv' : List (Nat × Value)), decode cX5_payable pc = .ok (.ireturn, 1) → G wM h X pc lv' [.int r] σ) (hk37 : ∀ (z2 : Int32), k37 z2 = some r → G wM h X 37 [(2, .int z2)] [] σ) : ∀ (F : Nat) (v2 : Int32) (v3 : Int32), lX5_payable_4 σ p1 k37 F v2 v3 = some r → G wM h X 4 [(0, .ref (h 0)), (1, .int p1), (2, .int v2), (3, .int v3)] [] σ := by
  intro F
  induction F with
  | zero => intro v2 v3 hf; exact absurd hf (by simp [lX5_payable_4])
  | succ F ih =>
    intro v2 v3 hf
    rw [lX5_payable_4.eq_2] at hf
    refine g_iload_n C 3 dX5_payable_4 rfl rfl ?_
    refine g_aload_n C 0 dX5_payable_5 rfl rfl ?_
    refine g_getI C in_X5_payable_X5 (k := 12) lk_X5_payable_0 rfl (Nat.le_of_ble_eq_true rfl) rfl (Nat.le_of_ble_eq_true rfl) rfl dX5_payable_6 ?_
    refine g_icmp_ge (tgt := 37) hf C dX5_payable_9 (by decide) (fun hf => ?_) (fun hf => ?_)
    · refine g_lv [2] rfl ?_
      exact hk37 v2 hf
    · refine g_iload_n C 2 dX5_payable_12 rfl rfl ?_
      refine g_aload_n C 0 dX5_payable_13 rfl rfl ?_
      refine g_iload_n C 3 dX5_payable_14 rfl rfl ?_
      refine g_iload_n C 1 dX5_payable_15 rfl rfl ?_
      obtain ⟨r2, hc1, hf⟩ := g_bind hf
      refine g_callVi C (mX5_canPay l0 D0 K0 h σ v3 p1 hc1) gX5_payable_X5_canPay rfl rfl rfl ddX5_canPay ⟨(Nat.le_of_ble_eq_true rfl), (Nat.le_of_ble_eq_true rfl)⟩ rfl (Nat.le_of_ble_eq_true rfl) rfl rfl rfl (Nat.le_of_ble_eq_true rfl) dX5_payable_16 ?_
      refine g_join (P := fun j => ∀ (y4 : Int32), j y4 = some r → G wM h X 29 [(0, .ref (h 0)), (1, .int p1), (3, .int v3)] [.int y4, .int v2] σ) hf (fun y4 hf => ?_) (fun j3 hj3 hf => ?_)
      · refine g_ior C dX5_payable_29 ?_
        refine g_leti hf (fun x5 hf => ?_)
        refine g_istore_n C [1, 2, 0, 3] dX5_payable_30 rfl (Nat.le_of_ble_eq_true rfl) rfl ?_
        refine g_iinc C 3 [1, 2, 3, 0] dX5_payable_31 rfl ic_1 (Nat.le_of_ble_eq_true rfl) rfl ?_
        refine g_goto (tgt := 4) C dX5_payable_34 (by decide) ?_
        exact ih x5 (v3 + (1 : Int32)) hf
      · refine g_if_eq (tgt := 28) hf C dX5_payable_19 (by decide) (fun hf => ?_) (fun hf => ?_)
        · refine g_iconst C dX5_payable_28 ic_0 ?_
          refine g_lv [0, 1, 3] rfl ?_
          exact hj3 (0 : Int32) hf
        · refine g_iconst C dX5_payable_22 ic_1 ?_
          refine g_iload_n C 3 dX5_payable_23 rfl rfl ?_
          refine g_ishl C dX5_payable_24 ?_
          refine g_goto (tgt := 29) C dX5_payable_25 (by decide) ?_
          refine g_lv [0, 1, 3] rfl ?_
          exact hj3 ((1 : Int32) <<< (v3 &&& 31)) hf
set_option maxHeartbeats 4000000 in
set_option maxRecDepth 100000 in
theorem mX5_payable (l0 : Launch) (D0 : va_G) (K0 : Nat → ClassId) (h : Nat → Nat) (σ : pS) (a1 : Int32) {r : Int32} (hf : fX5_payable σ a1 = some r) : Met l0 yX5_payable wsX5_payable ({ frames := 5, cells := 0, slots := 0, locals := 110 } : Room) (va_Pc [.ref (h 0), .int a1] (pIn wM D0 K0 h σ)) (va_Qi (fun r' u' => r' = r ∧ u' = σ) (pOut wM D0 K0 h) (pA wM h)) 0 0 (pA wM h) := by
  refine p_metI (lv := [(0, .ref (h 0)), (1, .int a1)]) (by decide +kernel) rfl rfl (Nat.le_of_ble_eq_true rfl) rfl (fun X C hret => ?_)
  unfold fX5_payable at hf
  refine g_iconst C dX5_payable_0 ic_0 ?_
  refine g_istore_n C [1, 2, 0] dX5_payable_1 rfl (Nat.le_of_ble_eq_true rfl) rfl ?_
  refine g_iconst C dX5_payable_2 ic_0 ?_
  refine g_istore_n C [1, 2, 3, 0] dX5_payable_3 rfl (Nat.le_of_ble_eq_true rfl) rfl ?_
  refine lX5_payable_4_ok σ a1 C hret (fun y6 hf => ?_) FU (0 : Int32) (0 : Int32) hf
  refine g_iload_n C 0 dX5_payable_37 rfl rfl ?_
  exact g_reti hf hret dX5_payable_38
/-! X5_fits -/
theorem in_X5_fits_X5 : ∀ q ∈ u_ws RX5 TX5 30, q ∈ wsX5_fits := by decide +kernel
theorem lk_X5_fits_0 : Cond.fieldLink RX5 143 "EmptyHouseModel" "debtMany" "I" ∈ wsX5_fits := by decide +kernel
theorem ddX5_fits : yX5_fits.cls = RX5 ∧ yX5_fits.cls ≠ "java/lang/invoke/MethodHandle" ∧ yX5_fits.cls ≠ "java/lang/invoke/VarHandle" ∧ (parseMethodDescriptor yX5_fits.desc).map (fun d => d.parameters.length) = some 1 := by decide +kernel
set_option maxHeartbeats 4000000 in
set_option maxRecDepth 100000 in
theorem lX5_fits_10_ok {h : Nat → Nat} {X : Cx} {l0 : Launch} {D0 : va_G} {K0 : Nat → ClassId} (σ : pS) (p1 : Int32) {k98 : Int32 → Option Int32} {r : Int32} (C : Cok wM h X l0 ({ frames := 1, cells := 0, slots := 0, locals := 22 } : Room) D0 K0 cX5_fits 6 RX5 wsX5_fits) (hret : ∀ (pc : Nat) (lv' : List (Nat × Value)), vp_nar .boolean r = r → decode cX5_fits pc = .ok (.ireturn, 1) → G wM h X pc lv' [.int r] σ) (hk98 : ∀ (z4 : Int32), k98 z4 = some r → G wM h X 98 [(4, .int z4)] [] σ) : ∀ (F : Nat) (v2 : Int32) (v3 : Int32) (v4 : Int32) (v5 : Int32), lX5_fits_10 σ p1 k98 F v2 v3 v4 v5 = some r → G wM h X 10 [(0, .ref (h 0)), (1, .int p1), (2, .int v2), (3, .int v3), (4, .int v4), (5, .int v5)] [] σ := by
  intro F
  induction F with
  | zero => intro v2 v3 v4 v5 hf; exact absurd hf (by simp [lX5_fits_10])
  | succ F ih =>
    intro v2 v3 v4 v5 hf
    rw [lX5_fits_10.eq_2] at hf
    refine g_iload C 5 dX5_fits_10 rfl ?_
    refine g_aload_n C 0 dX5_fits_12 rfl rfl ?_
    refine g_getI C in_X5_fits_X5 (k := 12) lk_X5_fits_0 rfl (Nat.le_of_ble_eq_true rfl) rfl (Nat.le_of_ble_eq_true rfl) rfl dX5_fits_13 ?_
    refine g_icmp_ge (tgt := 98) hf C dX5_fits_16 (by decide) (fun hf => ?_) (fun hf => ?_)
    · refine g_lv [4] rfl ?_
      exact hk98 v4 hf
    · refine g_iload_n C 1 dX5_fits_19 rfl rfl ?_
      refine g_iload C 5 dX5_fits_20 rfl ?_
      obtain ⟨r2, hc1, hf⟩ := g_bind hf
      refine g_callSi C (mX5_has l0 D0 K0 h σ p1 v5 hc1) gX5_fits_X5_has rfl rfl rfl ddX5_has ⟨(Nat.le_of_ble_eq_true rfl), (Nat.le_of_ble_eq_true rfl)⟩ rfl rfl (Nat.le_of_ble_eq_true rfl) dX5_fits_22 ?_
      refine g_if_eq (tgt := 92) hf C dX5_fits_25 (by decide) (fun hf => ?_) (fun hf => ?_)
      · refine g_iinc C 5 [1, 2, 3, 4, 5, 0] dX5_fits_92 rfl ic_1 (Nat.le_of_ble_eq_true rfl) rfl ?_
        refine g_goto (tgt := 10) C dX5_fits_95 (by decide) ?_
        exact ih v2 v3 v4 (v5 + (1 : Int32)) hf
      · refine g_iload C 4 dX5_fits_28 rfl ?_
        refine g_join (P := fun j => ∀ (y4 : Int32), j y4 = some r → G wM h X 66 [(0, .ref (h 0)), (1, .int p1), (2, .int v2), (3, .int v3), (5, .int v5)] [.int y4] σ) hf (fun y4 hf => ?_) (fun j3 hj3 hf => ?_)
        · refine g_istore C [1, 2, 3, 4, 0, 5] dX5_fits_66 (Nat.le_of_ble_eq_true rfl) rfl ?_
          refine g_iload_n C 2 dX5_fits_68 rfl rfl ?_
          refine g_iconst C dX5_fits_69 ic_1 ?_
          refine g_aload_n C 0 dX5_fits_70 rfl rfl ?_
          refine g_iload C 5 dX5_fits_71 rfl ?_
          refine g_iconst C dX5_fits_73 ic_0 ?_
          obtain ⟨r6, hc5, hf⟩ := g_bind hf
          refine g_callVi C (mX5_debtAt l0 D0 K0 h σ v5 (0 : Int32) hc5) gX5_fits_X5_debtAt rfl rfl rfl ddX5_debtAt ⟨(Nat.le_of_ble_eq_true rfl), (Nat.le_of_ble_eq_true rfl)⟩ rfl (Nat.le_of_ble_eq_true rfl) rfl rfl rfl (Nat.le_of_ble_eq_true rfl) dX5_fits_74 ?_
          refine g_ishl C dX5_fits_77 ?_
          refine g_ior C dX5_fits_78 ?_
          refine g_leti hf (fun x7 hf => ?_)
          refine g_istore_n C [1, 2, 0, 3, 4, 5] dX5_fits_79 rfl (Nat.le_of_ble_eq_true rfl) rfl ?_
          refine g_iload_n C 3 dX5_fits_80 rfl rfl ?_
          refine g_iconst C dX5_fits_81 ic_1 ?_
          refine g_aload_n C 0 dX5_fits_82 rfl rfl ?_
          refine g_iload C 5 dX5_fits_83 rfl ?_
          refine g_iconst C dX5_fits_85 ic_1 ?_
          obtain ⟨r9, hc8, hf⟩ := g_bind hf
          refine g_callVi C (mX5_debtAt l0 D0 K0 h σ v5 (1 : Int32) hc8) gX5_fits_X5_debtAt rfl rfl rfl ddX5_debtAt ⟨(Nat.le_of_ble_eq_true rfl), (Nat.le_of_ble_eq_true rfl)⟩ rfl (Nat.le_of_ble_eq_true rfl) rfl rfl rfl (Nat.le_of_ble_eq_true rfl) dX5_fits_86 ?_
          refine g_ishl C dX5_fits_89 ?_
          refine g_ior C dX5_fits_90 ?_
          refine g_leti hf (fun x10 hf => ?_)
          refine g_istore_n C [1, 2, 3, 0, 4, 5] dX5_fits_91 rfl (Nat.le_of_ble_eq_true rfl) rfl ?_
          refine g_iinc C 5 [1, 2, 3, 4, 5, 0] dX5_fits_92 rfl ic_1 (Nat.le_of_ble_eq_true rfl) rfl ?_
          refine g_goto (tgt := 10) C dX5_fits_95 (by decide) ?_
          exact ih x7 x10 y4 (v5 + (1 : Int32)) hf
        · refine g_if_eq (tgt := 65) hf C dX5_fits_30 (by decide) (fun hf => ?_) (fun hf => ?_)
          · refine g_iconst C dX5_fits_65 ic_0 ?_
            refine g_lv [0, 1, 2, 3, 5] rfl ?_
            exact hj3 (0 : Int32) hf
          · refine g_iload_n C 2 dX5_fits_33 rfl rfl ?_
            refine g_aload_n C 0 dX5_fits_34 rfl rfl ?_
            refine g_iload C 5 dX5_fits_35 rfl ?_
            refine g_iconst C dX5_fits_37 ic_0 ?_
            obtain ⟨r12, hc11, hf⟩ := g_bind hf
            refine g_callVi C (mX5_debtAt l0 D0 K0 h σ v5 (0 : Int32) hc11) gX5_fits_X5_debtAt rfl rfl rfl ddX5_debtAt ⟨(Nat.le_of_ble_eq_true rfl), (Nat.le_of_ble_eq_true rfl)⟩ rfl (Nat.le_of_ble_eq_true rfl) rfl rfl rfl (Nat.le_of_ble_eq_true rfl) dX5_fits_38 ?_
            obtain ⟨r14, hc13, hf⟩ := g_bind hf
            refine g_callSi C (mX5_has l0 D0 K0 h σ v2 r12 hc13) gX5_fits_X5_has rfl rfl rfl ddX5_has ⟨(Nat.le_of_ble_eq_true rfl), (Nat.le_of_ble_eq_true rfl)⟩ rfl rfl (Nat.le_of_ble_eq_true rfl) dX5_fits_41 ?_
            refine g_if_ne (tgt := 65) hf C dX5_fits_44 (by decide) (fun hf => ?_) (fun hf => ?_)
            · refine g_iconst C dX5_fits_65 ic_0 ?_
              refine g_lv [0, 1, 2, 3, 5] rfl ?_
              exact hj3 (0 : Int32) hf
            · refine g_iload_n C 3 dX5_fits_47 rfl rfl ?_
              refine g_aload_n C 0 dX5_fits_48 rfl rfl ?_
              refine g_iload C 5 dX5_fits_49 rfl ?_
              refine g_iconst C dX5_fits_51 ic_1 ?_
              obtain ⟨r16, hc15, hf⟩ := g_bind hf
              refine g_callVi C (mX5_debtAt l0 D0 K0 h σ v5 (1 : Int32) hc15) gX5_fits_X5_debtAt rfl rfl rfl ddX5_debtAt ⟨(Nat.le_of_ble_eq_true rfl), (Nat.le_of_ble_eq_true rfl)⟩ rfl (Nat.le_of_ble_eq_true rfl) rfl rfl rfl (Nat.le_of_ble_eq_true rfl) dX5_fits_52 ?_
              obtain ⟨r18, hc17, hf⟩ := g_bind hf
              refine g_callSi C (mX5_has l0 D0 K0 h σ v3 r16 hc17) gX5_fits_X5_has rfl rfl rfl ddX5_has ⟨(Nat.le_of_ble_eq_true rfl), (Nat.le_of_ble_eq_true rfl)⟩ rfl rfl (Nat.le_of_ble_eq_true rfl) dX5_fits_55 ?_
              refine g_if_ne (tgt := 65) hf C dX5_fits_58 (by decide) (fun hf => ?_) (fun hf => ?_)
              · refine g_iconst C dX5_fits_65 ic_0 ?_
                refine g_lv [0, 1, 2, 3, 5] rfl ?_
                exact hj3 (0 : Int32) hf
              · refine g_iconst C dX5_fits_61 ic_1 ?_
                refine g_goto (tgt := 66) C dX5_fits_62 (by decide) ?_
                refine g_lv [0, 1, 2, 3, 5] rfl ?_
                exact hj3 (1 : Int32) hf
set_option maxHeartbeats 4000000 in
set_option maxRecDepth 100000 in
theorem mX5_fits (l0 : Launch) (D0 : va_G) (K0 : Nat → ClassId) (h : Nat → Nat) (σ : pS) (a1 : Int32) {r : Int32} (hf : fX5_fits σ a1 = some r) : Met l0 yX5_fits wsX5_fits ({ frames := 1, cells := 0, slots := 0, locals := 22 } : Room) (va_Pc [.ref (h 0), .int a1] (pIn wM D0 K0 h σ)) (va_Qi (fun r' u' => r' = r ∧ u' = σ) (pOut wM D0 K0 h) (pA wM h)) 0 0 (pA wM h) := by
  refine p_metZ (lv := [(0, .ref (h 0)), (1, .int a1)]) (by decide +kernel) rfl rfl (Nat.le_of_ble_eq_true rfl) rfl (fun X C hret => ?_)
  unfold fX5_fits at hf
  refine g_iconst C dX5_fits_0 ic_0 ?_
  refine g_istore_n C [1, 2, 0] dX5_fits_1 rfl (Nat.le_of_ble_eq_true rfl) rfl ?_
  refine g_iconst C dX5_fits_2 ic_0 ?_
  refine g_istore_n C [1, 2, 3, 0] dX5_fits_3 rfl (Nat.le_of_ble_eq_true rfl) rfl ?_
  refine g_iconst C dX5_fits_4 ic_1 ?_
  refine g_istore C [1, 2, 3, 4, 0] dX5_fits_5 (Nat.le_of_ble_eq_true rfl) rfl ?_
  refine g_iconst C dX5_fits_7 ic_0 ?_
  refine g_istore C [1, 2, 3, 4, 5, 0] dX5_fits_8 (Nat.le_of_ble_eq_true rfl) rfl ?_
  refine lX5_fits_10_ok σ a1 C hret (fun y19 hf => ?_) FU (0 : Int32) (0 : Int32) (1 : Int32) (0 : Int32) hf
  refine g_iload C 0 dX5_fits_98 rfl ?_
  exact g_retzG hf hret dX5_fits_100
/-! X5_atOnce -/
theorem ddX5_atOnce : yX5_atOnce.cls = RX5 ∧ yX5_atOnce.cls ≠ "java/lang/invoke/MethodHandle" ∧ yX5_atOnce.cls ≠ "java/lang/invoke/VarHandle" ∧ (parseMethodDescriptor yX5_atOnce.desc).map (fun d => d.parameters.length) = some 1 := by decide +kernel
set_option maxHeartbeats 4000000 in
set_option maxRecDepth 100000 in
theorem lX5_atOnce_11_ok {h : Nat → Nat} {X : Cx} {l0 : Launch} {D0 : va_G} {K0 : Nat → ClassId} (σ : pS) (p2 : Int32) {k55 : Int32 → Option Int32} {r : Int32} (C : Cok wM h X l0 ({ frames := 6, cells := 0, slots := 0, locals := 133 } : Room) D0 K0 cX5_atOnce 5 RX5 wsX5_atOnce) (hret : ∀ (pc : Nat) (lv' : List (Nat × Value)), decode cX5_atOnce pc = .ok (.ireturn, 1) → G wM h X pc lv' [.int r] σ) (hk55 : ∀ (z3 : Int32), k55 z3 = some r → G wM h X 55 [(3, .int z3)] [] σ) : ∀ (F : Nat) (v3 : Int32) (v4 : Int32), lX5_atOnce_11 σ p2 k55 F v3 v4 = some r → G wM h X 11 [(0, .ref (h 0)), (2, .int p2), (3, .int v3), (4, .int v4)] [] σ := by
  intro F
  induction F with
  | zero => intro v3 v4 hf; exact absurd hf (by simp [lX5_atOnce_11])
  | succ F ih =>
    intro v3 v4 hf
    rw [lX5_atOnce_11.eq_2] at hf
    refine g_iload C 3 dX5_atOnce_11 rfl ?_
    refine g_if_le (tgt := 55) hf C dX5_atOnce_13 (by decide) (fun hf => ?_) (fun hf => ?_)
    · refine g_lv [2] rfl ?_
      exact hk55 v3 hf
    · refine g_iload C 3 dX5_atOnce_16 rfl ?_
      obtain ⟨r4, hc3, hf⟩ := g_bind hf
      refine g_callSi C (mX5_bits l0 D0 K0 h σ v4 hc3) gX5_atOnce_X5_bits rfl rfl rfl ddX5_bits ⟨(Nat.le_of_ble_eq_true rfl), (Nat.le_of_ble_eq_true rfl)⟩ rfl rfl (Nat.le_of_ble_eq_true rfl) dX5_atOnce_18 ?_
      refine g_iload_n C 2 dX5_atOnce_21 rfl rfl ?_
      refine g_join (P := fun j => ∀ (y6 : Int32), j y6 = some r → G wM h X 43 [(0, .ref (h 0)), (2, .int p2), (4, .int v4)] [.int y6] σ) hf (fun y6 hf => ?_) (fun j5 hj5 hf => ?_)
      · refine g_istore_n C [1, 2, 0, 3] dX5_atOnce_43 rfl (Nat.le_of_ble_eq_true rfl) rfl ?_
        refine g_iload C 3 dX5_atOnce_44 rfl ?_
        refine g_iconst C dX5_atOnce_46 ic_1 ?_
        refine g_isub C dX5_atOnce_47 ?_
        refine g_iload_n C 1 dX5_atOnce_48 rfl rfl ?_
        refine g_iand C dX5_atOnce_49 ?_
        refine g_leti hf (fun x7 hf => ?_)
        refine g_istore C [1, 2, 3, 0] dX5_atOnce_50 (Nat.le_of_ble_eq_true rfl) rfl ?_
        refine g_goto (tgt := 11) C dX5_atOnce_52 (by decide) ?_
        exact ih y6 x7 hf
      · refine g_icmp_le (tgt := 42) hf C dX5_atOnce_22 (by decide) (fun hf => ?_) (fun hf => ?_)
        · refine g_iload_n C 2 dX5_atOnce_42 rfl rfl ?_
          refine g_lv [0, 1, 3] rfl ?_
          exact hj5 v3 hf
        · refine g_aload_n C 0 dX5_atOnce_25 rfl rfl ?_
          refine g_iload C 3 dX5_atOnce_26 rfl ?_
          obtain ⟨r9, hc8, hf⟩ := g_bind hf
          refine g_callVi C (mX5_fits l0 D0 K0 h σ v4 hc8) gX5_atOnce_X5_fits rfl rfl rfl ddX5_fits ⟨(Nat.le_of_ble_eq_true rfl), (Nat.le_of_ble_eq_true rfl)⟩ rfl (Nat.le_of_ble_eq_true rfl) rfl rfl rfl (Nat.le_of_ble_eq_true rfl) dX5_atOnce_28 ?_
          refine g_if_eq (tgt := 42) hf C dX5_atOnce_31 (by decide) (fun hf => ?_) (fun hf => ?_)
          · refine g_iload_n C 2 dX5_atOnce_42 rfl rfl ?_
            refine g_lv [0, 1, 3] rfl ?_
            exact hj5 v3 hf
          · refine g_iload C 3 dX5_atOnce_34 rfl ?_
            obtain ⟨r11, hc10, hf⟩ := g_bind hf
            refine g_callSi C (mX5_bits l0 D0 K0 h σ v4 hc10) gX5_atOnce_X5_bits rfl rfl rfl ddX5_bits ⟨(Nat.le_of_ble_eq_true rfl), (Nat.le_of_ble_eq_true rfl)⟩ rfl rfl (Nat.le_of_ble_eq_true rfl) dX5_atOnce_36 ?_
            refine g_goto (tgt := 43) C dX5_atOnce_39 (by decide) ?_
            refine g_lv [0, 1, 3] rfl ?_
            exact hj5 r11 hf
set_option maxHeartbeats 4000000 in
set_option maxRecDepth 100000 in
theorem mX5_atOnce (l0 : Launch) (D0 : va_G) (K0 : Nat → ClassId) (h : Nat → Nat) (σ : pS) (a1 : Int32) {r : Int32} (hf : fX5_atOnce σ a1 = some r) : Met l0 yX5_atOnce wsX5_atOnce ({ frames := 6, cells := 0, slots := 0, locals := 133 } : Room) (va_Pc [.ref (h 0), .int a1] (pIn wM D0 K0 h σ)) (va_Qi (fun r' u' => r' = r ∧ u' = σ) (pOut wM D0 K0 h) (pA wM h)) 0 0 (pA wM h) := by
  refine p_metI (lv := [(0, .ref (h 0)), (1, .int a1)]) (by decide +kernel) rfl rfl (Nat.le_of_ble_eq_true rfl) rfl (fun X C hret => ?_)
  unfold fX5_atOnce at hf
  refine g_aload_n C 0 dX5_atOnce_0 rfl rfl ?_
  refine g_iload_n C 1 dX5_atOnce_1 rfl rfl ?_
  obtain ⟨r2, hc1, hf⟩ := g_bind hf
  refine g_callVi C (mX5_payable l0 D0 K0 h σ a1 hc1) gX5_atOnce_X5_payable rfl rfl rfl ddX5_payable ⟨(Nat.le_of_ble_eq_true rfl), (Nat.le_of_ble_eq_true rfl)⟩ rfl (Nat.le_of_ble_eq_true rfl) rfl rfl rfl (Nat.le_of_ble_eq_true rfl) dX5_atOnce_2 ?_
  refine g_istore_n C [1, 0] dX5_atOnce_5 rfl (Nat.le_of_ble_eq_true rfl) rfl ?_
  refine g_iconst C dX5_atOnce_6 ic_0 ?_
  refine g_istore_n C [1, 2, 0] dX5_atOnce_7 rfl (Nat.le_of_ble_eq_true rfl) rfl ?_
  refine g_iload_n C 1 dX5_atOnce_8 rfl rfl ?_
  refine g_istore C [1, 2, 3, 0] dX5_atOnce_9 (Nat.le_of_ble_eq_true rfl) rfl ?_
  refine lX5_atOnce_11_ok σ r2 C hret (fun y12 hf => ?_) FU (0 : Int32) r2 hf
  refine g_iload_n C 0 dX5_atOnce_55 rfl rfl ?_
  exact g_reti hf hret dX5_atOnce_56
/-! X5_hour -/
theorem ddX5_hour : yX5_hour.cls = RX5 ∧ yX5_hour.cls ≠ "java/lang/invoke/MethodHandle" ∧ yX5_hour.cls ≠ "java/lang/invoke/VarHandle" ∧ (parseMethodDescriptor yX5_hour.desc).map (fun d => d.parameters.length) = some 1 := by decide +kernel
set_option maxHeartbeats 4000000 in
set_option maxRecDepth 100000 in
theorem mX5_hour (l0 : Launch) (D0 : va_G) (K0 : Nat → ClassId) (h : Nat → Nat) (σ : pS) (a1 : Int32) {r : Int32} {u : pS} (hf : fX5_hour σ a1 = some (r, u)) : Met l0 yX5_hour wsX5_hour ({ frames := 7, cells := 0, slots := 0, locals := 157 } : Room) (va_Pc [.ref (h 0), .int a1] (pIn wM D0 K0 h σ)) (va_Qi (fun r' u' => r' = r ∧ u' = u) (pOut wM D0 K0 h) (pA wM h)) 0 0 (pA wM h) := by
  refine p_metI (lv := [(0, .ref (h 0)), (1, .int a1)]) (by decide +kernel) rfl rfl (Nat.le_of_ble_eq_true rfl) rfl (fun X C hret => ?_)
  unfold fX5_hour at hf
  refine g_iload_n C 1 dX5_hour_0 rfl rfl ?_
  obtain ⟨r2, hc1, hf⟩ := g_bind hf
  refine g_callSi C (mX5_isHour l0 D0 K0 h σ a1 hc1) gX5_hour_X5_isHour rfl rfl rfl ddX5_isHour ⟨(Nat.le_of_ble_eq_true rfl), (Nat.le_of_ble_eq_true rfl)⟩ rfl rfl (Nat.le_of_ble_eq_true rfl) dX5_hour_1 ?_
  refine g_if_eq (tgt := 24) hf C dX5_hour_4 (by decide) (fun hf => ?_) (fun hf => ?_)
  · refine g_iconst C dX5_hour_24 ic_m1 ?_
    exact g_retiW hf hret dX5_hour_25
  · refine g_aload_n C 0 dX5_hour_7 rfl rfl ?_
    refine g_aload_n C 0 dX5_hour_8 rfl rfl ?_
    refine g_iload_n C 1 dX5_hour_9 rfl rfl ?_
    obtain ⟨r4, hc3, hf⟩ := g_bind hf
    refine g_callVi C (mX5_atOnce l0 D0 K0 h σ a1 hc3) gX5_hour_X5_atOnce rfl rfl rfl ddX5_atOnce ⟨(Nat.le_of_ble_eq_true rfl), (Nat.le_of_ble_eq_true rfl)⟩ rfl (Nat.le_of_ble_eq_true rfl) rfl rfl rfl (Nat.le_of_ble_eq_true rfl) dX5_hour_10 ?_
    refine g_aload_n C 0 dX5_hour_13 rfl rfl ?_
    refine g_iload_n C 1 dX5_hour_14 rfl rfl ?_
    obtain ⟨r6, hc5, hf⟩ := g_bind hf
    refine g_callVi C (mX5_payable l0 D0 K0 h σ a1 hc5) gX5_hour_X5_payable rfl rfl rfl ddX5_payable ⟨(Nat.le_of_ble_eq_true rfl), (Nat.le_of_ble_eq_true rfl)⟩ rfl (Nat.le_of_ble_eq_true rfl) rfl rfl rfl (Nat.le_of_ble_eq_true rfl) dX5_hour_15 ?_
    obtain ⟨r8, σ9, hc7, hf⟩ := g_pbind hf
    refine g_callVi C (mX5_tells l0 D0 K0 h σ r4 r6 hc7) gX5_hour_X5_tells rfl rfl rfl ddX5_tells ⟨(Nat.le_of_ble_eq_true rfl), (Nat.le_of_ble_eq_true rfl)⟩ rfl (Nat.le_of_ble_eq_true rfl) rfl rfl rfl (Nat.le_of_ble_eq_true rfl) dX5_hour_18 ?_
    refine g_goto (tgt := 25) C dX5_hour_21 (by decide) ?_
    exact g_retiW hf hret dX5_hour_25
/-! X5_needRound -/
theorem in_X5_needRound_X5 : ∀ q ∈ u_ws RX5 TX5 30, q ∈ wsX5_needRound := by decide +kernel
theorem lk_X5_needRound_0 : Cond.fieldLink RX5 13 "EmptyHouseModel" "sizes" "[I" ∈ wsX5_needRound := by decide +kernel
theorem lk_X5_needRound_1 : Cond.fieldLink RX5 143 "EmptyHouseModel" "debtMany" "I" ∈ wsX5_needRound := by decide +kernel
theorem lk_X5_needRound_2 : Cond.fieldLink RX5 41 "EmptyHouseModel" "round" "[I" ∈ wsX5_needRound := by decide +kernel
theorem ddX5_needRound : yX5_needRound.cls = RX5 ∧ yX5_needRound.cls ≠ "java/lang/invoke/MethodHandle" ∧ yX5_needRound.cls ≠ "java/lang/invoke/VarHandle" ∧ (parseMethodDescriptor yX5_needRound.desc).map (fun d => d.parameters.length) = some 1 := by decide +kernel
set_option maxHeartbeats 4000000 in
set_option maxRecDepth 100000 in
theorem lX5_needRound_38_ok {h : Nat → Nat} {X : Cx} {l0 : Launch} {D0 : va_G} {K0 : Nat → ClassId} (σ : pS) (p1 : Int32) {k85 : Int32 → Option (Int32 × pS)} {r : Int32} {u : pS} (C : Cok wM h X l0 ({ frames := 2, cells := 0, slots := 0, locals := 42 } : Room) D0 K0 cX5_needRound 4 RX5 wsX5_needRound) (hret : ∀ (pc : Nat) (lv' : List (Nat × Value)), decode cX5_needRound pc = .ok (.ireturn, 1) → G wM h X pc lv' [.int r] u) (hk85 : ∀ (z2 : Int32), k85 z2 = some (r, u) → G wM h X 85 [(0, .ref (h 0)), (1, .int p1), (2, .int z2)] [] σ) : ∀ (F : Nat) (v2 : Int32) (v3 : Int32), lX5_needRound_38 σ p1 k85 F v2 v3 = some (r, u) → G wM h X 38 [(0, .ref (h 0)), (1, .int p1), (2, .int v2), (3, .int v3)] [] σ := by
  intro F
  induction F with
  | zero => intro v2 v3 hf; exact absurd hf (by simp [lX5_needRound_38])
  | succ F ih =>
    intro v2 v3 hf
    rw [lX5_needRound_38.eq_2] at hf
    refine g_iload_n C 3 dX5_needRound_38 rfl rfl ?_
    refine g_aload_n C 0 dX5_needRound_39 rfl rfl ?_
    refine g_getI C in_X5_needRound_X5 (k := 12) lk_X5_needRound_1 rfl (Nat.le_of_ble_eq_true rfl) rfl (Nat.le_of_ble_eq_true rfl) rfl dX5_needRound_40 ?_
    refine g_icmp_ge (tgt := 85) hf C dX5_needRound_43 (by decide) (fun hf => ?_) (fun hf => ?_)
    · refine g_lv [0, 1, 2] rfl ?_
      exact hk85 v2 hf
    · refine g_iload_n C 2 dX5_needRound_46 rfl rfl ?_
      refine g_join (P := fun j => j = some (r, u) → G wM h X 77 [(0, .ref (h 0)), (1, .int p1), (3, .int v3)] [] σ) hf (fun hf => ?_) (fun j1 hj1 hf => ?_)
      · refine g_iconst C dX5_needRound_77 ic_0 ?_
        refine g_istore_n C [1, 2, 0, 3] dX5_needRound_78 rfl (Nat.le_of_ble_eq_true rfl) rfl ?_
        refine g_iinc C 3 [1, 2, 3, 0] dX5_needRound_79 rfl ic_1 (Nat.le_of_ble_eq_true rfl) rfl ?_
        refine g_goto (tgt := 38) C dX5_needRound_82 (by decide) ?_
        exact ih (0 : Int32) (v3 + (1 : Int32)) hf
      · refine g_if_eq (tgt := 77) hf C dX5_needRound_47 (by decide) (fun hf => ?_) (fun hf => ?_)
        · refine g_lv [0, 1, 3] rfl ?_
          exact hj1 hf
        · refine g_aload_n C 0 dX5_needRound_50 rfl rfl ?_
          refine g_iload_n C 1 dX5_needRound_51 rfl rfl ?_
          refine g_iload_n C 3 dX5_needRound_52 rfl rfl ?_
          obtain ⟨r3, hc2, hf⟩ := g_bind hf
          refine g_callVi C (mX5_rowAt l0 D0 K0 h σ p1 v3 hc2) gX5_needRound_X5_rowAt rfl rfl rfl ddX5_rowAt ⟨(Nat.le_of_ble_eq_true rfl), (Nat.le_of_ble_eq_true rfl)⟩ rfl (Nat.le_of_ble_eq_true rfl) rfl rfl rfl (Nat.le_of_ble_eq_true rfl) dX5_needRound_53 ?_
          obtain ⟨r5, hc4, hf⟩ := g_bind hf
          refine g_callSi C (mX5_isHour l0 D0 K0 h σ r3 hc4) gX5_needRound_X5_isHour rfl rfl rfl ddX5_isHour ⟨(Nat.le_of_ble_eq_true rfl), (Nat.le_of_ble_eq_true rfl)⟩ rfl rfl (Nat.le_of_ble_eq_true rfl) dX5_needRound_56 ?_
          refine g_join (P := fun j => j = some (r, u) → G wM h X 73 [(0, .ref (h 0)), (1, .int p1), (3, .int v3)] [] σ) hf (fun hf => ?_) (fun j6 hj6 hf => ?_)
          · refine g_iconst C dX5_needRound_73 ic_1 ?_
            refine g_goto (tgt := 78) C dX5_needRound_74 (by decide) ?_
            refine g_istore_n C [1, 2, 0, 3] dX5_needRound_78 rfl (Nat.le_of_ble_eq_true rfl) rfl ?_
            refine g_iinc C 3 [1, 2, 3, 0] dX5_needRound_79 rfl ic_1 (Nat.le_of_ble_eq_true rfl) rfl ?_
            refine g_goto (tgt := 38) C dX5_needRound_82 (by decide) ?_
            exact ih (1 : Int32) (v3 + (1 : Int32)) hf
          · refine g_if_ne (tgt := 73) hf C dX5_needRound_59 (by decide) (fun hf => ?_) (fun hf => ?_)
            · refine g_lv [0, 1, 3] rfl ?_
              exact hj6 hf
            · refine g_aload_n C 0 dX5_needRound_62 rfl rfl ?_
              refine g_iload_n C 1 dX5_needRound_63 rfl rfl ?_
              refine g_iload_n C 3 dX5_needRound_64 rfl rfl ?_
              obtain ⟨r8, hc7, hf⟩ := g_bind hf
              refine g_callVi C (mX5_rowAt l0 D0 K0 h σ p1 v3 hc7) gX5_needRound_X5_rowAt rfl rfl rfl ddX5_rowAt ⟨(Nat.le_of_ble_eq_true rfl), (Nat.le_of_ble_eq_true rfl)⟩ rfl (Nat.le_of_ble_eq_true rfl) rfl rfl rfl (Nat.le_of_ble_eq_true rfl) dX5_needRound_65 ?_
              refine g_bipush C dX5_needRound_68 bp_m9 ?_
              refine g_icmp_ne (tgt := 77) hf C dX5_needRound_70 (by decide) (fun hf => ?_) (fun hf => ?_)
              · refine g_lv [0, 1, 3] rfl ?_
                exact hj1 hf
              · refine g_lv [0, 1, 3] rfl ?_
                exact hj6 hf
set_option maxHeartbeats 4000000 in
set_option maxRecDepth 100000 in
theorem lX5_needRound_97_ok {h : Nat → Nat} {X : Cx} {l0 : Launch} {D0 : va_G} {K0 : Nat → ClassId} (p1 : Int32) {k123 : pS → Option (Int32 × pS)} {r : Int32} {u : pS} (C : Cok wM h X l0 ({ frames := 2, cells := 0, slots := 0, locals := 42 } : Room) D0 K0 cX5_needRound 4 RX5 wsX5_needRound) (hret : ∀ (pc : Nat) (lv' : List (Nat × Value)), decode cX5_needRound pc = .ok (.ireturn, 1) → G wM h X pc lv' [.int r] u) (hk123 : ∀  (σ : pS), k123 σ = some (r, u) → G wM h X 123 [] [] σ) : ∀ (F : Nat) (v3 : Int32) (σ : pS), lX5_needRound_97 p1 k123 F v3 σ = some (r, u) → G wM h X 97 [(0, .ref (h 0)), (1, .int p1), (3, .int v3)] [] σ := by
  intro F
  induction F with
  | zero => intro v3 σ hf; exact absurd hf (by simp [lX5_needRound_97])
  | succ F ih =>
    intro v3 σ hf
    rw [lX5_needRound_97.eq_2] at hf
    refine g_iload_n C 2 dX5_needRound_97 rfl rfl ?_
    refine g_aload_n C 0 dX5_needRound_98 rfl rfl ?_
    refine g_getI C in_X5_needRound_X5 (k := 12) lk_X5_needRound_1 rfl (Nat.le_of_ble_eq_true rfl) rfl (Nat.le_of_ble_eq_true rfl) rfl dX5_needRound_99 ?_
    refine g_icmp_ge (tgt := 123) hf C dX5_needRound_102 (by decide) (fun hf => ?_) (fun hf => ?_)
    · refine g_lv [] rfl ?_
      exact hk123 σ hf
    · refine g_aload_n C 0 dX5_needRound_105 rfl rfl ?_
      refine g_getC (n := 11) C in_X5_needRound_X5 (k := 21) lk_X5_needRound_2 rfl (Nat.le_of_ble_eq_true rfl) rfl (Nat.le_of_ble_eq_true rfl) rfl dX5_needRound_106 ?_
      refine g_iload_n C 2 dX5_needRound_109 rfl rfl ?_
      refine g_aload_n C 0 dX5_needRound_110 rfl rfl ?_
      refine g_iload_n C 1 dX5_needRound_111 rfl rfl ?_
      refine g_iload_n C 2 dX5_needRound_112 rfl rfl ?_
      obtain ⟨r11, hc10, hf⟩ := g_bind hf
      refine g_callVi C (mX5_rowAt l0 D0 K0 h σ p1 v3 hc10) gX5_needRound_X5_rowAt rfl rfl rfl ddX5_rowAt ⟨(Nat.le_of_ble_eq_true rfl), (Nat.le_of_ble_eq_true rfl)⟩ rfl (Nat.le_of_ble_eq_true rfl) rfl rfl rfl (Nat.le_of_ble_eq_true rfl) dX5_needRound_113 ?_
      refine g_iast hf C rfl (Nat.le_of_ble_eq_true rfl) dX5_needRound_116 (fun hf => ?_)
      refine g_lets hf (fun σ12 hf => ?_)
      refine g_iinc C 2 [1, 2, 0] dX5_needRound_117 rfl ic_1 (Nat.le_of_ble_eq_true rfl) rfl ?_
      refine g_goto (tgt := 97) C dX5_needRound_120 (by decide) ?_
      exact ih (v3 + (1 : Int32)) σ12 hf
set_option maxHeartbeats 4000000 in
set_option maxRecDepth 100000 in
theorem mX5_needRound (l0 : Launch) (D0 : va_G) (K0 : Nat → ClassId) (h : Nat → Nat) (σ : pS) (a1 : Int32) {r : Int32} {u : pS} (hf : fX5_needRound σ a1 = some (r, u)) : Met l0 yX5_needRound wsX5_needRound ({ frames := 2, cells := 0, slots := 0, locals := 42 } : Room) (va_Pc [.ref (h 0), .int a1] (pIn wM D0 K0 h σ)) (va_Qi (fun r' u' => r' = r ∧ u' = u) (pOut wM D0 K0 h) (pA wM h)) 0 0 (pA wM h) := by
  refine p_metI (lv := [(0, .ref (h 0)), (1, .int a1)]) (by decide +kernel) rfl rfl (Nat.le_of_ble_eq_true rfl) rfl (fun X C hret => ?_)
  unfold fX5_needRound at hf
  refine g_aload_n C 0 dX5_needRound_0 rfl rfl ?_
  refine g_getC (n := 2) C in_X5_needRound_X5 (k := 5) lk_X5_needRound_0 rfl (Nat.le_of_ble_eq_true rfl) rfl (Nat.le_of_ble_eq_true rfl) rfl dX5_needRound_1 ?_
  refine g_iload_n C 1 dX5_needRound_4 rfl rfl ?_
  refine g_iald hf C rfl (Nat.le_of_ble_eq_true rfl) dX5_needRound_5 (fun hf => ?_)
  refine g_if_ge (tgt := 15) hf C dX5_needRound_6 (by decide) (fun hf => ?_) (fun hf => ?_)
  · refine g_aload_n C 0 dX5_needRound_15 rfl rfl ?_
    refine g_getC (n := 2) C in_X5_needRound_X5 (k := 5) lk_X5_needRound_0 rfl (Nat.le_of_ble_eq_true rfl) rfl (Nat.le_of_ble_eq_true rfl) rfl dX5_needRound_16 ?_
    refine g_iload_n C 1 dX5_needRound_19 rfl rfl ?_
    refine g_iald hf C rfl (Nat.le_of_ble_eq_true rfl) dX5_needRound_20 (fun hf => ?_)
    refine g_aload_n C 0 dX5_needRound_21 rfl rfl ?_
    refine g_getI C in_X5_needRound_X5 (k := 12) lk_X5_needRound_1 rfl (Nat.le_of_ble_eq_true rfl) rfl (Nat.le_of_ble_eq_true rfl) rfl dX5_needRound_22 ?_
    refine g_icmp_eq (tgt := 34) hf C dX5_needRound_25 (by decide) (fun hf => ?_) (fun hf => ?_)
    · refine g_iconst C dX5_needRound_34 ic_1 ?_
      refine g_istore_n C [1, 2, 0] dX5_needRound_35 rfl (Nat.le_of_ble_eq_true rfl) rfl ?_
      refine g_iconst C dX5_needRound_36 ic_0 ?_
      refine g_istore_n C [1, 2, 3, 0] dX5_needRound_37 rfl (Nat.le_of_ble_eq_true rfl) rfl ?_
      refine lX5_needRound_38_ok σ a1 C hret (fun y9 hf => ?_) FU (1 : Int32) (0 : Int32) hf
      refine g_iload_n C 2 dX5_needRound_85 rfl rfl ?_
      refine g_if_ne (tgt := 95) hf C dX5_needRound_86 (by decide) (fun hf => ?_) (fun hf => ?_)
      · refine g_iconst C dX5_needRound_95 ic_0 ?_
        refine g_istore_n C [1, 2, 0] dX5_needRound_96 rfl (Nat.le_of_ble_eq_true rfl) rfl ?_
        refine lX5_needRound_97_ok a1 C hret (fun σ13 hf => ?_) FU (0 : Int32) σ hf
        refine g_iconst C dX5_needRound_123 ic_0 ?_
        exact g_retiW hf hret dX5_needRound_124
      · refine g_aload_n C 0 dX5_needRound_89 rfl rfl ?_
        refine g_iconst C dX5_needRound_90 ic_3 ?_
        obtain ⟨r15, σ16, hc14, hf⟩ := g_pbind hf
        refine g_callVi C (mX5_meets l0 D0 K0 h σ (3 : Int32) hc14) gX5_needRound_X5_meets rfl rfl rfl ddX5_meets ⟨(Nat.le_of_ble_eq_true rfl), (Nat.le_of_ble_eq_true rfl)⟩ rfl (Nat.le_of_ble_eq_true rfl) rfl rfl rfl (Nat.le_of_ble_eq_true rfl) dX5_needRound_91 ?_
        exact g_retiW hf hret dX5_needRound_94
    · refine g_aload_n C 0 dX5_needRound_28 rfl rfl ?_
      refine g_iconst C dX5_needRound_29 ic_5 ?_
      obtain ⟨r18, σ19, hc17, hf⟩ := g_pbind hf
      refine g_callVi C (mX5_meets l0 D0 K0 h σ (5 : Int32) hc17) gX5_needRound_X5_meets rfl rfl rfl ddX5_meets ⟨(Nat.le_of_ble_eq_true rfl), (Nat.le_of_ble_eq_true rfl)⟩ rfl (Nat.le_of_ble_eq_true rfl) rfl rfl rfl (Nat.le_of_ble_eq_true rfl) dX5_needRound_30 ?_
      exact g_retiW hf hret dX5_needRound_33
  · refine g_aload_n C 0 dX5_needRound_9 rfl rfl ?_
    refine g_iconst C dX5_needRound_10 ic_1 ?_
    obtain ⟨r21, σ22, hc20, hf⟩ := g_pbind hf
    refine g_callVi C (mX5_meets l0 D0 K0 h σ (1 : Int32) hc20) gX5_needRound_X5_meets rfl rfl rfl ddX5_meets ⟨(Nat.le_of_ble_eq_true rfl), (Nat.le_of_ble_eq_true rfl)⟩ rfl (Nat.le_of_ble_eq_true rfl) rfl rfl rfl (Nat.le_of_ble_eq_true rfl) dX5_needRound_11 ?_
    exact g_retiW hf hret dX5_needRound_14
/-! X5_amiss -/
theorem in_X5_amiss_X5 : ∀ q ∈ u_ws RX5 TX5 30, q ∈ wsX5_amiss := by decide +kernel
theorem lk_X5_amiss_0 : Cond.fieldLink RX5 143 "EmptyHouseModel" "debtMany" "I" ∈ wsX5_amiss := by decide +kernel
theorem lk_X5_amiss_1 : Cond.fieldLink RX5 204 "EmptyHouseModel" "amissAt" "I" ∈ wsX5_amiss := by decide +kernel
theorem lk_X5_amiss_2 : Cond.fieldLink RX5 41 "EmptyHouseModel" "round" "[I" ∈ wsX5_amiss := by decide +kernel
theorem ddX5_amiss : yX5_amiss.cls = RX5 ∧ yX5_amiss.cls ≠ "java/lang/invoke/MethodHandle" ∧ yX5_amiss.cls ≠ "java/lang/invoke/VarHandle" ∧ (parseMethodDescriptor yX5_amiss.desc).map (fun d => d.parameters.length) = some 0 := by decide +kernel
set_option maxHeartbeats 4000000 in
set_option maxRecDepth 100000 in
theorem lX5_amiss_49_ok {h : Nat → Nat} {X : Cx} {l0 : Launch} {D0 : va_G} {K0 : Nat → ClassId} (σ : pS) (p1 : Int32) {k145 : Int32 → Int32 → Option (Int32 × pS)} {r : Int32} {u : pS} (C : Cok wM h X l0 ({ frames := 5, cells := 0, slots := 0, locals := 110 } : Room) D0 K0 cX5_amiss 5 RX5 wsX5_amiss) (hret : ∀ (pc : Nat) (lv' : List (Nat × Value)), decode cX5_amiss pc = .ok (.ireturn, 1) → G wM h X pc lv' [.int r] u) (hk145 : ∀ (z2 : Int32) (z3 : Int32), k145 z2 z3 = some (r, u) → G wM h X 145 [(0, .ref (h 0)), (1, .int p1), (2, .int z2), (3, .int z3)] [] σ) : ∀ (F : Nat) (v2 : Int32) (v3 : Int32) (v4 : Int32), lX5_amiss_49 σ p1 k145 F v2 v3 v4 = some (r, u) → G wM h X 49 [(0, .ref (h 0)), (1, .int p1), (2, .int v2), (3, .int v3), (4, .int v4)] [] σ := by
  intro F
  induction F with
  | zero => intro v2 v3 v4 hf; exact absurd hf (by simp [lX5_amiss_49])
  | succ F ih =>
    intro v2 v3 v4 hf
    rw [lX5_amiss_49.eq_2] at hf
    refine g_iload C 4 dX5_amiss_49 rfl ?_
    refine g_iload_n C 1 dX5_amiss_51 rfl rfl ?_
    refine g_icmp_ge (tgt := 145) hf C dX5_amiss_52 (by decide) (fun hf => ?_) (fun hf => ?_)
    · refine g_lv [0, 1, 2, 3] rfl ?_
      exact hk145 v2 v3 hf
    · refine g_iload_n C 2 dX5_amiss_55 rfl rfl ?_
      refine g_join (P := fun j => ∀ (y5 : Int32), j y5 = some (r, u) → G wM h X 96 [(0, .ref (h 0)), (1, .int p1), (3, .int v3), (4, .int v4)] [.int y5] σ) hf (fun y5 hf => ?_) (fun j4 hj4 hf => ?_)
      · refine g_istore_n C [1, 2, 0, 3, 4] dX5_amiss_96 rfl (Nat.le_of_ble_eq_true rfl) rfl ?_
        refine g_iload_n C 3 dX5_amiss_97 rfl rfl ?_
        refine g_join (P := fun j => j = some (r, u) → G wM h X 133 [(0, .ref (h 0)), (1, .int p1), (2, .int y5), (4, .int v4)] [] σ) hf (fun hf => ?_) (fun j6 hj6 hf => ?_)
        · refine g_iconst C dX5_amiss_133 ic_1 ?_
          refine g_goto (tgt := 138) C dX5_amiss_134 (by decide) ?_
          refine g_istore_n C [1, 2, 3, 0, 4] dX5_amiss_138 rfl (Nat.le_of_ble_eq_true rfl) rfl ?_
          refine g_iinc C 4 [1, 2, 3, 4, 0] dX5_amiss_139 rfl ic_1 (Nat.le_of_ble_eq_true rfl) rfl ?_
          refine g_goto (tgt := 49) C dX5_amiss_142 (by decide) ?_
          exact ih y5 (1 : Int32) (v4 + (1 : Int32)) hf
        · refine g_if_ne (tgt := 133) hf C dX5_amiss_98 (by decide) (fun hf => ?_) (fun hf => ?_)
          · refine g_lv [0, 1, 2, 4] rfl ?_
            exact hj6 hf
          · refine g_aload_n C 0 dX5_amiss_101 rfl rfl ?_
            refine g_getC (n := 11) C in_X5_amiss_X5 (k := 21) lk_X5_amiss_2 rfl (Nat.le_of_ble_eq_true rfl) rfl (Nat.le_of_ble_eq_true rfl) rfl dX5_amiss_102 ?_
            refine g_iload C 4 dX5_amiss_105 rfl ?_
            refine g_iald hf C rfl (Nat.le_of_ble_eq_true rfl) dX5_amiss_107 (fun hf => ?_)
            refine g_aload_n C 0 dX5_amiss_108 rfl rfl ?_
            refine g_getC (n := 11) C in_X5_amiss_X5 (k := 21) lk_X5_amiss_2 rfl (Nat.le_of_ble_eq_true rfl) rfl (Nat.le_of_ble_eq_true rfl) rfl dX5_amiss_109 ?_
            refine g_iload_n C 1 dX5_amiss_112 rfl rfl ?_
            refine g_iald hf C rfl (Nat.le_of_ble_eq_true rfl) dX5_amiss_113 (fun hf => ?_)
            refine g_join (P := fun j => j = some (r, u) → G wM h X 137 [(0, .ref (h 0)), (1, .int p1), (2, .int y5), (4, .int v4)] [] σ) hf (fun hf => ?_) (fun j7 hj7 hf => ?_)
            · refine g_iconst C dX5_amiss_137 ic_0 ?_
              refine g_istore_n C [1, 2, 3, 0, 4] dX5_amiss_138 rfl (Nat.le_of_ble_eq_true rfl) rfl ?_
              refine g_iinc C 4 [1, 2, 3, 4, 0] dX5_amiss_139 rfl ic_1 (Nat.le_of_ble_eq_true rfl) rfl ?_
              refine g_goto (tgt := 49) C dX5_amiss_142 (by decide) ?_
              exact ih y5 (0 : Int32) (v4 + (1 : Int32)) hf
            · refine g_icmp_ne (tgt := 137) hf C dX5_amiss_114 (by decide) (fun hf => ?_) (fun hf => ?_)
              · refine g_lv [0, 1, 2, 4] rfl ?_
                exact hj7 hf
              · refine g_aload_n C 0 dX5_amiss_117 rfl rfl ?_
                refine g_iload C 4 dX5_amiss_118 rfl ?_
                refine g_iconst C dX5_amiss_120 ic_1 ?_
                obtain ⟨r9, hc8, hf⟩ := g_bind hf
                refine g_callVi C (mX5_debtAt l0 D0 K0 h σ v4 (1 : Int32) hc8) gX5_amiss_X5_debtAt rfl rfl rfl ddX5_debtAt ⟨(Nat.le_of_ble_eq_true rfl), (Nat.le_of_ble_eq_true rfl)⟩ rfl (Nat.le_of_ble_eq_true rfl) rfl rfl rfl (Nat.le_of_ble_eq_true rfl) dX5_amiss_121 ?_
                refine g_aload_n C 0 dX5_amiss_124 rfl rfl ?_
                refine g_iload_n C 1 dX5_amiss_125 rfl rfl ?_
                refine g_iconst C dX5_amiss_126 ic_1 ?_
                obtain ⟨r11, hc10, hf⟩ := g_bind hf
                refine g_callVi C (mX5_debtAt l0 D0 K0 h σ p1 (1 : Int32) hc10) gX5_amiss_X5_debtAt rfl rfl rfl ddX5_debtAt ⟨(Nat.le_of_ble_eq_true rfl), (Nat.le_of_ble_eq_true rfl)⟩ rfl (Nat.le_of_ble_eq_true rfl) rfl rfl rfl (Nat.le_of_ble_eq_true rfl) dX5_amiss_127 ?_
                refine g_icmp_ne (tgt := 137) hf C dX5_amiss_130 (by decide) (fun hf => ?_) (fun hf => ?_)
                · refine g_lv [0, 1, 2, 4] rfl ?_
                  exact hj7 hf
                · refine g_lv [0, 1, 2, 4] rfl ?_
                  exact hj6 hf
      · refine g_if_ne (tgt := 91) hf C dX5_amiss_56 (by decide) (fun hf => ?_) (fun hf => ?_)
        · refine g_iconst C dX5_amiss_91 ic_1 ?_
          refine g_goto (tgt := 96) C dX5_amiss_92 (by decide) ?_
          refine g_lv [0, 1, 3, 4] rfl ?_
          exact hj4 (1 : Int32) hf
        · refine g_aload_n C 0 dX5_amiss_59 rfl rfl ?_
          refine g_getC (n := 11) C in_X5_amiss_X5 (k := 21) lk_X5_amiss_2 rfl (Nat.le_of_ble_eq_true rfl) rfl (Nat.le_of_ble_eq_true rfl) rfl dX5_amiss_60 ?_
          refine g_iload C 4 dX5_amiss_63 rfl ?_
          refine g_iald hf C rfl (Nat.le_of_ble_eq_true rfl) dX5_amiss_65 (fun hf => ?_)
          refine g_aload_n C 0 dX5_amiss_66 rfl rfl ?_
          refine g_getC (n := 11) C in_X5_amiss_X5 (k := 21) lk_X5_amiss_2 rfl (Nat.le_of_ble_eq_true rfl) rfl (Nat.le_of_ble_eq_true rfl) rfl dX5_amiss_67 ?_
          refine g_iload_n C 1 dX5_amiss_70 rfl rfl ?_
          refine g_iald hf C rfl (Nat.le_of_ble_eq_true rfl) dX5_amiss_71 (fun hf => ?_)
          refine g_icmp_ne (tgt := 95) hf C dX5_amiss_72 (by decide) (fun hf => ?_) (fun hf => ?_)
          · refine g_iconst C dX5_amiss_95 ic_0 ?_
            refine g_lv [0, 1, 3, 4] rfl ?_
            exact hj4 (0 : Int32) hf
          · refine g_aload_n C 0 dX5_amiss_75 rfl rfl ?_
            refine g_iload C 4 dX5_amiss_76 rfl ?_
            refine g_iconst C dX5_amiss_78 ic_0 ?_
            obtain ⟨r13, hc12, hf⟩ := g_bind hf
            refine g_callVi C (mX5_debtAt l0 D0 K0 h σ v4 (0 : Int32) hc12) gX5_amiss_X5_debtAt rfl rfl rfl ddX5_debtAt ⟨(Nat.le_of_ble_eq_true rfl), (Nat.le_of_ble_eq_true rfl)⟩ rfl (Nat.le_of_ble_eq_true rfl) rfl rfl rfl (Nat.le_of_ble_eq_true rfl) dX5_amiss_79 ?_
            refine g_aload_n C 0 dX5_amiss_82 rfl rfl ?_
            refine g_iload_n C 1 dX5_amiss_83 rfl rfl ?_
            refine g_iconst C dX5_amiss_84 ic_0 ?_
            obtain ⟨r15, hc14, hf⟩ := g_bind hf
            refine g_callVi C (mX5_debtAt l0 D0 K0 h σ p1 (0 : Int32) hc14) gX5_amiss_X5_debtAt rfl rfl rfl ddX5_debtAt ⟨(Nat.le_of_ble_eq_true rfl), (Nat.le_of_ble_eq_true rfl)⟩ rfl (Nat.le_of_ble_eq_true rfl) rfl rfl rfl (Nat.le_of_ble_eq_true rfl) dX5_amiss_85 ?_
            refine g_icmp_ne (tgt := 95) hf C dX5_amiss_88 (by decide) (fun hf => ?_) (fun hf => ?_)
            · refine g_iconst C dX5_amiss_95 ic_0 ?_
              refine g_lv [0, 1, 3, 4] rfl ?_
              exact hj4 (0 : Int32) hf
            · refine g_iconst C dX5_amiss_91 ic_1 ?_
              refine g_goto (tgt := 96) C dX5_amiss_92 (by decide) ?_
              refine g_lv [0, 1, 3, 4] rfl ?_
              exact hj4 (1 : Int32) hf
set_option maxHeartbeats 4000000 in
set_option maxRecDepth 100000 in
theorem lX5_amiss_2_ok {h : Nat → Nat} {X : Cx} {l0 : Launch} {D0 : va_G} {K0 : Nat → ClassId} {k169 : pS → Option (Int32 × pS)} {r : Int32} {u : pS} (C : Cok wM h X l0 ({ frames := 5, cells := 0, slots := 0, locals := 110 } : Room) D0 K0 cX5_amiss 5 RX5 wsX5_amiss) (hret : ∀ (pc : Nat) (lv' : List (Nat × Value)), decode cX5_amiss pc = .ok (.ireturn, 1) → G wM h X pc lv' [.int r] u) (hk169 : ∀  (σ : pS), k169 σ = some (r, u) → G wM h X 169 [(0, .ref (h 0))] [] σ) : ∀ (F : Nat) (v1 : Int32) (σ : pS), lX5_amiss_2 k169 F v1 σ = some (r, u) → G wM h X 2 [(0, .ref (h 0)), (1, .int v1)] [] σ := by
  intro F
  induction F with
  | zero => intro v1 σ hf; exact absurd hf (by simp [lX5_amiss_2])
  | succ F ih =>
    intro v1 σ hf
    rw [lX5_amiss_2.eq_2] at hf
    refine g_iload_n C 1 dX5_amiss_2 rfl rfl ?_
    refine g_aload_n C 0 dX5_amiss_3 rfl rfl ?_
    refine g_getI C in_X5_amiss_X5 (k := 12) lk_X5_amiss_0 rfl (Nat.le_of_ble_eq_true rfl) rfl (Nat.le_of_ble_eq_true rfl) rfl dX5_amiss_4 ?_
    refine g_icmp_ge (tgt := 169) hf C dX5_amiss_7 (by decide) (fun hf => ?_) (fun hf => ?_)
    · refine g_lv [0] rfl ?_
      exact hk169 σ hf
    · refine g_aload_n C 0 dX5_amiss_10 rfl rfl ?_
      refine g_iload_n C 1 dX5_amiss_11 rfl rfl ?_
      refine g_putI C in_X5_amiss_X5 (k := 22) lk_X5_amiss_1 rfl (Nat.le_of_ble_eq_true rfl) rfl (Nat.le_of_ble_eq_true rfl) tyX5 tyX5_ok nmX5 rfl rfl rfl rfl dX5_amiss_12 ?_
      refine g_lets hf (fun σ1 hf => ?_)
      refine g_aload_n C 0 dX5_amiss_15 rfl rfl ?_
      refine g_getC (n := 11) C in_X5_amiss_X5 (k := 21) lk_X5_amiss_2 rfl (Nat.le_of_ble_eq_true rfl) rfl (Nat.le_of_ble_eq_true rfl) rfl dX5_amiss_16 ?_
      refine g_iload_n C 1 dX5_amiss_19 rfl rfl ?_
      refine g_iald hf C rfl (Nat.le_of_ble_eq_true rfl) dX5_amiss_20 (fun hf => ?_)
      refine g_bipush C dX5_amiss_21 bp_m9 ?_
      refine g_icmp_eq (tgt := 163) hf C dX5_amiss_23 (by decide) (fun hf => ?_) (fun hf => ?_)
      · refine g_iinc C 1 [1, 0] dX5_amiss_163 rfl ic_1 (Nat.le_of_ble_eq_true rfl) rfl ?_
        refine g_goto (tgt := 2) C dX5_amiss_166 (by decide) ?_
        exact ih (v1 + (1 : Int32)) σ1 hf
      · refine g_aload_n C 0 dX5_amiss_26 rfl rfl ?_
        refine g_iload_n C 1 dX5_amiss_27 rfl rfl ?_
        refine g_aload_n C 0 dX5_amiss_28 rfl rfl ?_
        refine g_getC (n := 11) C in_X5_amiss_X5 (k := 21) lk_X5_amiss_2 rfl (Nat.le_of_ble_eq_true rfl) rfl (Nat.le_of_ble_eq_true rfl) rfl dX5_amiss_29 ?_
        refine g_iload_n C 1 dX5_amiss_32 rfl rfl ?_
        refine g_iald hf C rfl (Nat.le_of_ble_eq_true rfl) dX5_amiss_33 (fun hf => ?_)
        obtain ⟨r3, hc2, hf⟩ := g_bind hf
        refine g_callVi C (mX5_canPay l0 D0 K0 h σ1 v1 (pI σ1 11 (v1).toNatClampNeg) hc2) gX5_amiss_X5_canPay rfl rfl rfl ddX5_canPay ⟨(Nat.le_of_ble_eq_true rfl), (Nat.le_of_ble_eq_true rfl)⟩ rfl (Nat.le_of_ble_eq_true rfl) rfl rfl rfl (Nat.le_of_ble_eq_true rfl) dX5_amiss_34 ?_
        refine g_if_ne (tgt := 42) hf C dX5_amiss_37 (by decide) (fun hf => ?_) (fun hf => ?_)
        · refine g_iconst C dX5_amiss_42 ic_0 ?_
          refine g_istore_n C [1, 2, 0] dX5_amiss_43 rfl (Nat.le_of_ble_eq_true rfl) rfl ?_
          refine g_iconst C dX5_amiss_44 ic_0 ?_
          refine g_istore_n C [1, 2, 3, 0] dX5_amiss_45 rfl (Nat.le_of_ble_eq_true rfl) rfl ?_
          refine g_iconst C dX5_amiss_46 ic_0 ?_
          refine g_istore C [1, 2, 3, 4, 0] dX5_amiss_47 (Nat.le_of_ble_eq_true rfl) rfl ?_
          refine lX5_amiss_49_ok σ1 v1 C hret (fun y16 y17 hf => ?_) FU (0 : Int32) (0 : Int32) (0 : Int32) hf
          refine g_iload_n C 2 dX5_amiss_145 rfl rfl ?_
          refine g_join (P := fun j => j = some (r, u) → G wM h X 153 [(2, .int y16)] [] σ1) hf (fun hf => ?_) (fun j18 hj18 hf => ?_)
          · refine g_iload_n C 0 dX5_amiss_153 rfl rfl ?_
            refine g_if_eq (tgt := 161) hf C dX5_amiss_154 (by decide) (fun hf => ?_) (fun hf => ?_)
            · refine g_iconst C dX5_amiss_161 ic_3 ?_
              exact g_retiW hf hret dX5_amiss_162
            · refine g_iconst C dX5_amiss_157 ic_2 ?_
              refine g_goto (tgt := 162) C dX5_amiss_158 (by decide) ?_
              exact g_retiW hf hret dX5_amiss_162
          · refine g_if_ne (tgt := 153) hf C dX5_amiss_146 (by decide) (fun hf => ?_) (fun hf => ?_)
            · refine g_lv [2] rfl ?_
              exact hj18 hf
            · refine g_iload_n C 3 dX5_amiss_149 rfl rfl ?_
              refine g_if_eq (tgt := 163) hf C dX5_amiss_150 (by decide) (fun hf => ?_) (fun hf => ?_)
              · refine g_iinc C 1 [1, 0] dX5_amiss_163 rfl ic_1 (Nat.le_of_ble_eq_true rfl) rfl ?_
                refine g_goto (tgt := 2) C dX5_amiss_166 (by decide) ?_
                exact ih (v1 + (1 : Int32)) σ1 hf
              · refine g_lv [2] rfl ?_
                exact hj18 hf
        · refine g_iconst C dX5_amiss_40 ic_1 ?_
          exact g_retiW hf hret dX5_amiss_41
set_option maxHeartbeats 4000000 in
set_option maxRecDepth 100000 in
theorem mX5_amiss (l0 : Launch) (D0 : va_G) (K0 : Nat → ClassId) (h : Nat → Nat) (σ : pS)  {r : Int32} {u : pS} (hf : fX5_amiss σ = some (r, u)) : Met l0 yX5_amiss wsX5_amiss ({ frames := 5, cells := 0, slots := 0, locals := 110 } : Room) (va_Pc [.ref (h 0)] (pIn wM D0 K0 h σ)) (va_Qi (fun r' u' => r' = r ∧ u' = u) (pOut wM D0 K0 h) (pA wM h)) 0 0 (pA wM h) := by
  refine p_metI (lv := [(0, .ref (h 0))]) (by decide +kernel) rfl rfl (Nat.le_of_ble_eq_true rfl) rfl (fun X C hret => ?_)
  unfold fX5_amiss at hf
  refine g_iconst C dX5_amiss_0 ic_0 ?_
  refine g_istore_n C [1, 0] dX5_amiss_1 rfl (Nat.le_of_ble_eq_true rfl) rfl ?_
  refine lX5_amiss_2_ok  C hret (fun σ19 hf => ?_) FU (0 : Int32) σ hf
  refine g_aload_n C 0 dX5_amiss_169 rfl rfl ?_
  refine g_iconst C dX5_amiss_170 ic_0 ?_
  refine g_putI C in_X5_amiss_X5 (k := 22) lk_X5_amiss_1 rfl (Nat.le_of_ble_eq_true rfl) rfl (Nat.le_of_ble_eq_true rfl) tyX5 tyX5_ok nmX5 rfl rfl rfl rfl dX5_amiss_171 ?_
  refine g_lets hf (fun σ20 hf => ?_)
  refine g_iconst C dX5_amiss_174 ic_0 ?_
  exact g_retiW hf hret dX5_amiss_175
/-! X5_judge -/
theorem in_X5_judge_X5 : ∀ q ∈ u_ws RX5 TX5 30, q ∈ wsX5_judge := by decide +kernel
theorem lk_X5_judge_0 : Cond.fieldLink RX5 204 "EmptyHouseModel" "amissAt" "I" ∈ wsX5_judge := by decide +kernel
theorem ddX5_judge : yX5_judge.cls = RX5 ∧ yX5_judge.cls ≠ "java/lang/invoke/MethodHandle" ∧ yX5_judge.cls ≠ "java/lang/invoke/VarHandle" ∧ (parseMethodDescriptor yX5_judge.desc).map (fun d => d.parameters.length) = some 1 := by decide +kernel
set_option maxHeartbeats 4000000 in
set_option maxRecDepth 100000 in
theorem mX5_judge (l0 : Launch) (D0 : va_G) (K0 : Nat → ClassId) (h : Nat → Nat) (σ : pS) (a1 : Int32) {r : Int32} {u : pS} (hf : fX5_judge σ a1 = some (r, u)) : Met l0 yX5_judge wsX5_judge ({ frames := 6, cells := 0, slots := 0, locals := 134 } : Room) (va_Pc [.ref (h 0), .int a1] (pIn wM D0 K0 h σ)) (va_Qi (fun r' u' => r' = r ∧ u' = u) (pOut wM D0 K0 h) (pA wM h)) 0 0 (pA wM h) := by
  refine p_metI (lv := [(0, .ref (h 0)), (1, .int a1)]) (by decide +kernel) rfl rfl (Nat.le_of_ble_eq_true rfl) rfl (fun X C hret => ?_)
  unfold fX5_judge at hf
  refine g_iload_n C 1 dX5_judge_0 rfl rfl ?_
  obtain ⟨r2, hc1, hf⟩ := g_bind hf
  refine g_callSi C (mX5_isRow l0 D0 K0 h σ a1 hc1) gX5_judge_X5_isRow rfl rfl rfl ddX5_isRow ⟨(Nat.le_of_ble_eq_true rfl), (Nat.le_of_ble_eq_true rfl)⟩ rfl rfl (Nat.le_of_ble_eq_true rfl) dX5_judge_1 ?_
  refine g_if_ne (tgt := 9) hf C dX5_judge_4 (by decide) (fun hf => ?_) (fun hf => ?_)
  · refine g_aload_n C 0 dX5_judge_9 rfl rfl ?_
    refine g_iload_n C 1 dX5_judge_10 rfl rfl ?_
    obtain ⟨r4, σ5, hc3, hf⟩ := g_pbind hf
    refine g_callVi C (mX5_needRound l0 D0 K0 h σ a1 hc3) gX5_judge_X5_needRound rfl rfl rfl ddX5_needRound ⟨(Nat.le_of_ble_eq_true rfl), (Nat.le_of_ble_eq_true rfl)⟩ rfl (Nat.le_of_ble_eq_true rfl) rfl rfl rfl (Nat.le_of_ble_eq_true rfl) dX5_judge_11 ?_
    refine g_istore_n C [1, 0] dX5_judge_14 rfl (Nat.le_of_ble_eq_true rfl) rfl ?_
    refine g_iload_n C 1 dX5_judge_15 rfl rfl ?_
    refine g_if_ge (tgt := 21) hf C dX5_judge_16 (by decide) (fun hf => ?_) (fun hf => ?_)
    · refine g_aload_n C 0 dX5_judge_21 rfl rfl ?_
      obtain ⟨r7, σ8, hc6, hf⟩ := g_pbind hf
      refine g_callVi C (mX5_amiss l0 D0 K0 h σ5 hc6) gX5_judge_X5_amiss rfl rfl rfl ddX5_amiss ⟨(Nat.le_of_ble_eq_true rfl), (Nat.le_of_ble_eq_true rfl)⟩ rfl (Nat.le_of_ble_eq_true rfl) rfl rfl rfl (Nat.le_of_ble_eq_true rfl) dX5_judge_22 ?_
      refine g_istore_n C [1, 0] dX5_judge_25 rfl (Nat.le_of_ble_eq_true rfl) rfl ?_
      refine g_aload_n C 0 dX5_judge_26 rfl rfl ?_
      refine g_aload_n C 0 dX5_judge_27 rfl rfl ?_
      refine g_getI C in_X5_judge_X5 (k := 22) lk_X5_judge_0 rfl (Nat.le_of_ble_eq_true rfl) rfl (Nat.le_of_ble_eq_true rfl) rfl dX5_judge_28 ?_
      refine g_iload_n C 1 dX5_judge_31 rfl rfl ?_
      obtain ⟨r10, σ11, hc9, hf⟩ := g_pbind hf
      refine g_callVi C (mX5_tells l0 D0 K0 h σ8 (pI σ8 0 22) r7 hc9) gX5_judge_X5_tells rfl rfl rfl ddX5_tells ⟨(Nat.le_of_ble_eq_true rfl), (Nat.le_of_ble_eq_true rfl)⟩ rfl (Nat.le_of_ble_eq_true rfl) rfl rfl rfl (Nat.le_of_ble_eq_true rfl) dX5_judge_32 ?_
      exact g_retiW hf hret dX5_judge_35
    · refine g_iload_n C 1 dX5_judge_19 rfl rfl ?_
      exact g_retiW hf hret dX5_judge_20
  · refine g_iconst C dX5_judge_7 ic_m1 ?_
    exact g_retiW hf hret dX5_judge_8
/-! X5_costOf -/
theorem ddX5_costOf : yX5_costOf.cls = RX5 ∧ yX5_costOf.cls ≠ "java/lang/invoke/MethodHandle" ∧ yX5_costOf.cls ≠ "java/lang/invoke/VarHandle" ∧ (parseMethodDescriptor yX5_costOf.desc).map (fun d => d.parameters.length) = some 2 := by decide +kernel
set_option maxHeartbeats 4000000 in
set_option maxRecDepth 100000 in
theorem mX5_costOf (l0 : Launch) (D0 : va_G) (K0 : Nat → ClassId) (h : Nat → Nat) (σ : pS) (a1 : Int32) (a2 : Int32) {r : Int32} (hf : fX5_costOf σ a1 a2 = some r) : Met l0 yX5_costOf wsX5_costOf ({ frames := 1, cells := 0, slots := 0, locals := 22 } : Room) (va_Pc [.ref (h 0), .int a1, .int a2] (pIn wM D0 K0 h σ)) (va_Qi (fun r' u' => r' = r ∧ u' = σ) (pOut wM D0 K0 h) (pA wM h)) 0 0 (pA wM h) := by
  refine p_metI (lv := [(0, .ref (h 0)), (1, .int a1), (2, .int a2)]) (by decide +kernel) rfl rfl (Nat.le_of_ble_eq_true rfl) rfl (fun X C hret => ?_)
  unfold fX5_costOf at hf
  refine g_aload_n C 0 dX5_costOf_0 rfl rfl ?_
  refine g_iload_n C 1 dX5_costOf_1 rfl rfl ?_
  refine g_iconst C dX5_costOf_2 ic_2 ?_
  obtain ⟨r2, hc1, hf⟩ := g_bind hf
  refine g_callVi C (mX5_debtAt l0 D0 K0 h σ a1 (2 : Int32) hc1) gX5_costOf_X5_debtAt rfl rfl rfl ddX5_debtAt ⟨(Nat.le_of_ble_eq_true rfl), (Nat.le_of_ble_eq_true rfl)⟩ rfl (Nat.le_of_ble_eq_true rfl) rfl rfl rfl (Nat.le_of_ble_eq_true rfl) dX5_costOf_3 ?_
  refine g_iload_n C 2 dX5_costOf_6 rfl rfl ?_
  refine g_aload_n C 0 dX5_costOf_7 rfl rfl ?_
  refine g_iload_n C 1 dX5_costOf_8 rfl rfl ?_
  refine g_iconst C dX5_costOf_9 ic_3 ?_
  obtain ⟨r4, hc3, hf⟩ := g_bind hf
  refine g_callVi C (mX5_debtAt l0 D0 K0 h σ a1 (3 : Int32) hc3) gX5_costOf_X5_debtAt rfl rfl rfl ddX5_debtAt ⟨(Nat.le_of_ble_eq_true rfl), (Nat.le_of_ble_eq_true rfl)⟩ rfl (Nat.le_of_ble_eq_true rfl) rfl rfl rfl (Nat.le_of_ble_eq_true rfl) dX5_costOf_10 ?_
  refine g_imul C dX5_costOf_13 ?_
  refine g_iadd C dX5_costOf_14 ?_
  exact g_reti hf hret dX5_costOf_15
/-! X5_worth -/
theorem in_X5_worth_X5 : ∀ q ∈ u_ws RX5 TX5 30, q ∈ wsX5_worth := by decide +kernel
theorem lk_X5_worth_0 : Cond.fieldLink RX5 143 "EmptyHouseModel" "debtMany" "I" ∈ wsX5_worth := by decide +kernel
theorem lk_X5_worth_1 : Cond.fieldLink RX5 41 "EmptyHouseModel" "round" "[I" ∈ wsX5_worth := by decide +kernel
theorem ddX5_worth : yX5_worth.cls = RX5 ∧ yX5_worth.cls ≠ "java/lang/invoke/MethodHandle" ∧ yX5_worth.cls ≠ "java/lang/invoke/VarHandle" ∧ (parseMethodDescriptor yX5_worth.desc).map (fun d => d.parameters.length) = some 1 := by decide +kernel
set_option maxHeartbeats 4000000 in
set_option maxRecDepth 100000 in
theorem lX5_worth_42_ok {h : Nat → Nat} {X : Cx} {l0 : Launch} {D0 : va_G} {K0 : Nat → ClassId} (σ : pS) {k123 : Int32 → Int32 → Option (Int32 × pS)} {r : Int32} {u : pS} (C : Cok wM h X l0 ({ frames := 6, cells := 0, slots := 0, locals := 134 } : Room) D0 K0 cX5_worth 6 RX5 wsX5_worth) (hret : ∀ (pc : Nat) (lv' : List (Nat × Value)), decode cX5_worth pc = .ok (.ireturn, 1) → G wM h X pc lv' [.int r] u) (hk123 : ∀ (z3 : Int32) (z4 : Int32), k123 z3 z4 = some (r, u) → G wM h X 123 [(0, .ref (h 0)), (3, .int z3), (4, .int z4)] [] σ) : ∀ (F : Nat) (v3 : Int32) (v4 : Int32) (v5 : Int32), lX5_worth_42 σ k123 F v3 v4 v5 = some (r, u) → G wM h X 42 [(0, .ref (h 0)), (3, .int v3), (4, .int v4), (5, .int v5)] [] σ := by
  intro F
  induction F with
  | zero => intro v3 v4 v5 hf; exact absurd hf (by simp [lX5_worth_42])
  | succ F ih =>
    intro v3 v4 v5 hf
    rw [lX5_worth_42.eq_2] at hf
    refine g_iload C 3 dX5_worth_42 rfl ?_
    refine g_aload_n C 0 dX5_worth_44 rfl rfl ?_
    refine g_getI C in_X5_worth_X5 (k := 12) lk_X5_worth_0 rfl (Nat.le_of_ble_eq_true rfl) rfl (Nat.le_of_ble_eq_true rfl) rfl dX5_worth_45 ?_
    refine g_icmp_ge (tgt := 123) hf C dX5_worth_48 (by decide) (fun hf => ?_) (fun hf => ?_)
    · refine g_lv [0, 1, 2] rfl ?_
      exact hk123 v3 v4 hf
    · refine g_iload_n C 1 dX5_worth_51 rfl rfl ?_
      refine g_aload_n C 0 dX5_worth_52 rfl rfl ?_
      refine g_iload C 3 dX5_worth_53 rfl ?_
      refine g_aload_n C 0 dX5_worth_55 rfl rfl ?_
      refine g_getC (n := 11) C in_X5_worth_X5 (k := 21) lk_X5_worth_1 rfl (Nat.le_of_ble_eq_true rfl) rfl (Nat.le_of_ble_eq_true rfl) rfl dX5_worth_56 ?_
      refine g_iload C 3 dX5_worth_59 rfl ?_
      refine g_iald hf C rfl (Nat.le_of_ble_eq_true rfl) dX5_worth_61 (fun hf => ?_)
      refine g_bipush C dX5_worth_62 bp_m9 ?_
      refine g_join (P := fun j => ∀ (y10 : Int32), j y10 = some (r, u) → G wM h X 79 [(0, .ref (h 0)), (4, .int v4), (5, .int v5)] [.int y10, .int v5, .ref (h 0), .int v3] σ) hf (fun y10 hf => ?_) (fun j9 hj9 hf => ?_)
      · obtain ⟨r12, hc11, hf⟩ := g_bind hf
        refine g_callVi C (mX5_costOf l0 D0 K0 h σ v5 y10 hc11) gX5_worth_X5_costOf rfl rfl rfl ddX5_costOf ⟨(Nat.le_of_ble_eq_true rfl), (Nat.le_of_ble_eq_true rfl)⟩ rfl (Nat.le_of_ble_eq_true rfl) rfl rfl rfl (Nat.le_of_ble_eq_true rfl) dX5_worth_79 ?_
        refine g_iadd C dX5_worth_82 ?_
        refine g_leti hf (fun x13 hf => ?_)
        refine g_istore_n C [1, 0, 2, 3] dX5_worth_83 rfl (Nat.le_of_ble_eq_true rfl) rfl ?_
        refine g_aload_n C 0 dX5_worth_84 rfl rfl ?_
        refine g_getC (n := 11) C in_X5_worth_X5 (k := 21) lk_X5_worth_1 rfl (Nat.le_of_ble_eq_true rfl) rfl (Nat.le_of_ble_eq_true rfl) rfl dX5_worth_85 ?_
        refine g_iload C 3 dX5_worth_88 rfl ?_
        refine g_iald hf C rfl (Nat.le_of_ble_eq_true rfl) dX5_worth_90 (fun hf => ?_)
        refine g_bipush C dX5_worth_91 bp_m9 ?_
        refine g_icmp_ne (tgt := 101) hf C dX5_worth_93 (by decide) (fun hf => ?_) (fun hf => ?_)
        · refine g_iload C 2 dX5_worth_101 rfl ?_
          refine g_aload_n C 0 dX5_worth_103 rfl rfl ?_
          refine g_getC (n := 11) C in_X5_worth_X5 (k := 21) lk_X5_worth_1 rfl (Nat.le_of_ble_eq_true rfl) rfl (Nat.le_of_ble_eq_true rfl) rfl dX5_worth_104 ?_
          refine g_iload C 3 dX5_worth_107 rfl ?_
          refine g_iald hf C rfl (Nat.le_of_ble_eq_true rfl) dX5_worth_109 (fun hf => ?_)
          refine g_iconst C dX5_worth_110 ic_1 ?_
          refine g_iadd C dX5_worth_111 ?_
          obtain ⟨r15, hc14, hf⟩ := g_bind hf
          refine g_callSi C (mX5_greater l0 D0 K0 h σ v4 ((pI σ 11 (v5).toNatClampNeg) + (1 : Int32)) hc14) gX5_worth_X5_greater rfl rfl rfl ddX5_greater ⟨(Nat.le_of_ble_eq_true rfl), (Nat.le_of_ble_eq_true rfl)⟩ rfl rfl (Nat.le_of_ble_eq_true rfl) dX5_worth_112 ?_
          refine g_istore C [1, 2, 0, 3] dX5_worth_115 (Nat.le_of_ble_eq_true rfl) rfl ?_
          refine g_iinc C 3 [1, 2, 3, 0] dX5_worth_117 rfl ic_1 (Nat.le_of_ble_eq_true rfl) rfl ?_
          refine g_goto (tgt := 42) C dX5_worth_120 (by decide) ?_
          exact ih x13 r15 (v5 + (1 : Int32)) hf
        · refine g_iload C 2 dX5_worth_96 rfl ?_
          refine g_goto (tgt := 115) C dX5_worth_98 (by decide) ?_
          refine g_istore C [1, 2, 0, 3] dX5_worth_115 (Nat.le_of_ble_eq_true rfl) rfl ?_
          refine g_iinc C 3 [1, 2, 3, 0] dX5_worth_117 rfl ic_1 (Nat.le_of_ble_eq_true rfl) rfl ?_
          refine g_goto (tgt := 42) C dX5_worth_120 (by decide) ?_
          exact ih x13 v4 (v5 + (1 : Int32)) hf
      · refine g_icmp_ne (tgt := 72) hf C dX5_worth_64 (by decide) (fun hf => ?_) (fun hf => ?_)
        · refine g_aload_n C 0 dX5_worth_72 rfl rfl ?_
          refine g_getC (n := 11) C in_X5_worth_X5 (k := 21) lk_X5_worth_1 rfl (Nat.le_of_ble_eq_true rfl) rfl (Nat.le_of_ble_eq_true rfl) rfl dX5_worth_73 ?_
          refine g_iload C 3 dX5_worth_76 rfl ?_
          refine g_iald hf C rfl (Nat.le_of_ble_eq_true rfl) dX5_worth_78 (fun hf => ?_)
          refine g_lv [0, 2, 3] rfl ?_
          exact hj9 (pI σ 11 (v5).toNatClampNeg) hf
        · refine g_bipush C dX5_worth_67 bp_12 ?_
          refine g_goto (tgt := 79) C dX5_worth_69 (by decide) ?_
          refine g_lv [0, 2, 3] rfl ?_
          exact hj9 (12 : Int32) hf
set_option maxHeartbeats 4000000 in
set_option maxRecDepth 100000 in
theorem mX5_worth (l0 : Launch) (D0 : va_G) (K0 : Nat → ClassId) (h : Nat → Nat) (σ : pS) (a1 : Int32) {r : Int32} {u : pS} (hf : fX5_worth σ a1 = some (r, u)) : Met l0 yX5_worth wsX5_worth ({ frames := 6, cells := 0, slots := 0, locals := 134 } : Room) (va_Pc [.ref (h 0), .int a1] (pIn wM D0 K0 h σ)) (va_Qi (fun r' u' => r' = r ∧ u' = u) (pOut wM D0 K0 h) (pA wM h)) 0 0 (pA wM h) := by
  refine p_metI (lv := [(0, .ref (h 0)), (1, .int a1)]) (by decide +kernel) rfl rfl (Nat.le_of_ble_eq_true rfl) rfl (fun X C hret => ?_)
  unfold fX5_worth at hf
  refine g_iload_n C 1 dX5_worth_0 rfl rfl ?_
  obtain ⟨r2, hc1, hf⟩ := g_bind hf
  refine g_callSi C (mX5_isRow l0 D0 K0 h σ a1 hc1) gX5_worth_X5_isRow rfl rfl rfl ddX5_isRow ⟨(Nat.le_of_ble_eq_true rfl), (Nat.le_of_ble_eq_true rfl)⟩ rfl rfl (Nat.le_of_ble_eq_true rfl) dX5_worth_1 ?_
  refine g_if_ne (tgt := 9) hf C dX5_worth_4 (by decide) (fun hf => ?_) (fun hf => ?_)
  · refine g_aload_n C 0 dX5_worth_9 rfl rfl ?_
    refine g_iload_n C 1 dX5_worth_10 rfl rfl ?_
    obtain ⟨r4, σ5, hc3, hf⟩ := g_pbind hf
    refine g_callVi C (mX5_needRound l0 D0 K0 h σ a1 hc3) gX5_worth_X5_needRound rfl rfl rfl ddX5_needRound ⟨(Nat.le_of_ble_eq_true rfl), (Nat.le_of_ble_eq_true rfl)⟩ rfl (Nat.le_of_ble_eq_true rfl) rfl rfl rfl (Nat.le_of_ble_eq_true rfl) dX5_worth_11 ?_
    refine g_istore_n C [1, 0] dX5_worth_14 rfl (Nat.le_of_ble_eq_true rfl) rfl ?_
    refine g_iload_n C 1 dX5_worth_15 rfl rfl ?_
    refine g_if_ge (tgt := 21) hf C dX5_worth_16 (by decide) (fun hf => ?_) (fun hf => ?_)
    · refine g_aload_n C 0 dX5_worth_21 rfl rfl ?_
      obtain ⟨r7, σ8, hc6, hf⟩ := g_pbind hf
      refine g_callVi C (mX5_amiss l0 D0 K0 h σ5 hc6) gX5_worth_X5_amiss rfl rfl rfl ddX5_amiss ⟨(Nat.le_of_ble_eq_true rfl), (Nat.le_of_ble_eq_true rfl)⟩ rfl (Nat.le_of_ble_eq_true rfl) rfl rfl rfl (Nat.le_of_ble_eq_true rfl) dX5_worth_22 ?_
      refine g_if_eq (tgt := 34) hf C dX5_worth_25 (by decide) (fun hf => ?_) (fun hf => ?_)
      · refine g_iconst C dX5_worth_34 ic_0 ?_
        refine g_istore_n C [1, 0] dX5_worth_35 rfl (Nat.le_of_ble_eq_true rfl) rfl ?_
        refine g_iconst C dX5_worth_36 ic_0 ?_
        refine g_istore C [1, 2, 0] dX5_worth_37 (Nat.le_of_ble_eq_true rfl) rfl ?_
        refine g_iconst C dX5_worth_39 ic_0 ?_
        refine g_istore C [1, 2, 3, 0] dX5_worth_40 (Nat.le_of_ble_eq_true rfl) rfl ?_
        refine lX5_worth_42_ok σ8 C hret (fun y16 y17 hf => ?_) FU (0 : Int32) (0 : Int32) (0 : Int32) hf
        refine g_aload_n C 0 dX5_worth_123 rfl rfl ?_
        refine g_iload C 2 dX5_worth_124 rfl ?_
        refine g_iload_n C 1 dX5_worth_126 rfl rfl ?_
        obtain ⟨r19, σ20, hc18, hf⟩ := g_pbind hf
        refine g_callVi C (mX5_tells l0 D0 K0 h σ8 y17 y16 hc18) gX5_worth_X5_tells rfl rfl rfl ddX5_tells ⟨(Nat.le_of_ble_eq_true rfl), (Nat.le_of_ble_eq_true rfl)⟩ rfl (Nat.le_of_ble_eq_true rfl) rfl rfl rfl (Nat.le_of_ble_eq_true rfl) dX5_worth_127 ?_
        exact g_retiW hf hret dX5_worth_130
      · refine g_aload_n C 0 dX5_worth_28 rfl rfl ?_
        refine g_iconst C dX5_worth_29 ic_3 ?_
        obtain ⟨r22, σ23, hc21, hf⟩ := g_pbind hf
        refine g_callVi C (mX5_meets l0 D0 K0 h σ8 (3 : Int32) hc21) gX5_worth_X5_meets rfl rfl rfl ddX5_meets ⟨(Nat.le_of_ble_eq_true rfl), (Nat.le_of_ble_eq_true rfl)⟩ rfl (Nat.le_of_ble_eq_true rfl) rfl rfl rfl (Nat.le_of_ble_eq_true rfl) dX5_worth_30 ?_
        exact g_retiW hf hret dX5_worth_33
    · refine g_iload_n C 1 dX5_worth_19 rfl rfl ?_
      exact g_retiW hf hret dX5_worth_20
  · refine g_iconst C dX5_worth_7 ic_m1 ?_
    exact g_retiW hf hret dX5_worth_8
/-! X5_spot -/
theorem ddX5_spot : yX5_spot.cls ≠ "java/lang/invoke/MethodHandle" ∧ yX5_spot.cls ≠ "java/lang/invoke/VarHandle" ∧ (parseMethodDescriptor yX5_spot.desc).map (fun d => d.parameters.length) = some 2 := by decide +kernel
set_option maxHeartbeats 4000000 in
set_option maxRecDepth 100000 in
theorem mX5_spot (l0 : Launch) (D0 : va_G) (K0 : Nat → ClassId) (h : Nat → Nat) (σ : pS) (a1 : Int32) (a2 : Int32) {r : Int32} (hf : fX5_spot a1 a2 = some r) : Met l0 yX5_spot wsX5_spot ({ frames := 0, cells := 0, slots := 0, locals := 0 } : Room) (va_Pc [.int a1, .int a2] (pIn wM D0 K0 h σ)) (va_Qi (fun r' u' => r' = r ∧ u' = σ) (pOut wM D0 K0 h) (pA wM h)) 0 0 (pA wM h) := by
  refine p_metI (lv := [(0, .int a1), (1, .int a2)]) (by decide +kernel) rfl rfl (Nat.le_of_ble_eq_true rfl) rfl (fun X C hret => ?_)
  unfold fX5_spot at hf
  refine g_sipush C dX5_spot_0 sp_256 ?_
  refine g_iload_n C 0 dX5_spot_3 rfl rfl ?_
  refine g_imul C dX5_spot_4 ?_
  refine g_iload_n C 1 dX5_spot_5 rfl rfl ?_
  refine g_iadd C dX5_spot_6 ?_
  exact g_reti hf hret dX5_spot_7
/-! X5_allDebts -/
theorem in_X5_allDebts_X5 : ∀ q ∈ u_ws RX5 TX5 30, q ∈ wsX5_allDebts := by decide +kernel
theorem lk_X5_allDebts_0 : Cond.fieldLink RX5 143 "EmptyHouseModel" "debtMany" "I" ∈ wsX5_allDebts := by decide +kernel
theorem ddX5_allDebts : yX5_allDebts.cls = RX5 ∧ yX5_allDebts.cls ≠ "java/lang/invoke/MethodHandle" ∧ yX5_allDebts.cls ≠ "java/lang/invoke/VarHandle" ∧ (parseMethodDescriptor yX5_allDebts.desc).map (fun d => d.parameters.length) = some 0 := by decide +kernel
set_option maxHeartbeats 4000000 in
set_option maxRecDepth 100000 in
theorem mX5_allDebts (l0 : Launch) (D0 : va_G) (K0 : Nat → ClassId) (h : Nat → Nat) (σ : pS)  {r : Int32} (hf : fX5_allDebts σ = some r) : Met l0 yX5_allDebts wsX5_allDebts ({ frames := 0, cells := 0, slots := 0, locals := 0 } : Room) (va_Pc [.ref (h 0)] (pIn wM D0 K0 h σ)) (va_Qi (fun r' u' => r' = r ∧ u' = σ) (pOut wM D0 K0 h) (pA wM h)) 0 0 (pA wM h) := by
  refine p_metI (lv := [(0, .ref (h 0))]) (by decide +kernel) rfl rfl (Nat.le_of_ble_eq_true rfl) rfl (fun X C hret => ?_)
  unfold fX5_allDebts at hf
  refine g_iconst C dX5_allDebts_0 ic_1 ?_
  refine g_aload_n C 0 dX5_allDebts_1 rfl rfl ?_
  refine g_getI C in_X5_allDebts_X5 (k := 12) lk_X5_allDebts_0 rfl (Nat.le_of_ble_eq_true rfl) rfl (Nat.le_of_ble_eq_true rfl) rfl dX5_allDebts_2 ?_
  refine g_ishl C dX5_allDebts_5 ?_
  refine g_iconst C dX5_allDebts_6 ic_1 ?_
  refine g_isub C dX5_allDebts_7 ?_
  exact g_reti hf hret dX5_allDebts_8
/-! X5_layMay -/
theorem in_X5_layMay_X5 : ∀ q ∈ u_ws RX5 TX5 30, q ∈ wsX5_layMay := by decide +kernel
theorem lk_X5_layMay_0 : Cond.fieldLink RX5 51 "EmptyHouseModel" "may" "[Z" ∈ wsX5_layMay := by decide +kernel
theorem ddX5_layMay : yX5_layMay.cls = RX5 ∧ yX5_layMay.cls ≠ "java/lang/invoke/MethodHandle" ∧ yX5_layMay.cls ≠ "java/lang/invoke/VarHandle" ∧ (parseMethodDescriptor yX5_layMay.desc).map (fun d => d.parameters.length) = some 1 := by decide +kernel
set_option maxHeartbeats 4000000 in
set_option maxRecDepth 100000 in
theorem lX5_layMay_8_ok {h : Nat → Nat} {X : Cx} {l0 : Launch} {D0 : va_G} {K0 : Nat → ClassId} (p2 : Int32) {k49 : pS → Option (Unit × pS)} {r : Unit} {u : pS} (C : Cok wM h X l0 ({ frames := 6, cells := 0, slots := 0, locals := 133 } : Room) D0 K0 cX5_layMay 4 RX5 wsX5_layMay) (hret : ∀ (pc : Nat) (lv' : List (Nat × Value)), decode cX5_layMay pc = .ok (.return_, 1) → G wM h X pc lv' [] u) (hk49 : ∀  (σ : pS), k49 σ = some (r, u) → G wM h X 49 [] [] σ) : ∀ (F : Nat) (v3 : Int32) (σ : pS), lX5_layMay_8 p2 k49 F v3 σ = some (r, u) → G wM h X 8 [(0, .ref (h 0)), (2, .int p2), (3, .int v3)] [] σ := by
  intro F
  induction F with
  | zero => intro v3 σ hf; exact absurd hf (by simp [lX5_layMay_8])
  | succ F ih =>
    intro v3 σ hf
    rw [lX5_layMay_8.eq_2] at hf
    refine g_iload_n C 2 dX5_layMay_8 rfl rfl ?_
    refine g_aload_n C 0 dX5_layMay_9 rfl rfl ?_
    obtain ⟨r4, hc3, hf⟩ := g_bind hf
    refine g_callVi C (mX5_allDebts l0 D0 K0 h σ hc3) gX5_layMay_X5_allDebts rfl rfl rfl ddX5_allDebts ⟨(Nat.le_of_ble_eq_true rfl), (Nat.le_of_ble_eq_true rfl)⟩ rfl (Nat.le_of_ble_eq_true rfl) rfl rfl rfl (Nat.le_of_ble_eq_true rfl) dX5_layMay_10 ?_
    refine g_icmp_gt (tgt := 49) hf C dX5_layMay_13 (by decide) (fun hf => ?_) (fun hf => ?_)
    · refine g_lv [] rfl ?_
      exact hk49 σ hf
    · refine g_aload_n C 0 dX5_layMay_16 rfl rfl ?_
      refine g_getC (n := 14) C in_X5_layMay_X5 (k := 25) lk_X5_layMay_0 rfl (Nat.le_of_ble_eq_true rfl) rfl (Nat.le_of_ble_eq_true rfl) rfl dX5_layMay_17 ?_
      refine g_iload_n C 2 dX5_layMay_20 rfl rfl ?_
      refine g_iload_n C 2 dX5_layMay_21 rfl rfl ?_
      refine g_iload_n C 1 dX5_layMay_22 rfl rfl ?_
      refine g_iconst C dX5_layMay_23 ic_m1 ?_
      refine g_ixor C dX5_layMay_24 ?_
      refine g_iand C dX5_layMay_25 ?_
      refine g_join (P := fun j => j = some (r, u) → G wM h X 41 [(0, .ref (h 0)), (2, .int p2), (3, .int v3)] [.int v3, .ref (h 14)] σ) hf (fun hf => ?_) (fun j5 hj5 hf => ?_)
      · refine g_iconst C dX5_layMay_41 ic_0 ?_
        refine g_zast hf C rfl (Nat.le_of_ble_eq_true rfl) dX5_layMay_42 (fun hf => ?_)
        refine g_lets hf (fun σ6 hf => ?_)
        refine g_iinc C 2 [1, 2, 0] dX5_layMay_43 rfl ic_1 (Nat.le_of_ble_eq_true rfl) rfl ?_
        refine g_goto (tgt := 8) C dX5_layMay_46 (by decide) ?_
        exact ih (v3 + (1 : Int32)) σ6 hf
      · refine g_if_ne (tgt := 41) hf C dX5_layMay_26 (by decide) (fun hf => ?_) (fun hf => ?_)
        · exact hj5 hf
        · refine g_aload_n C 0 dX5_layMay_29 rfl rfl ?_
          refine g_iload_n C 2 dX5_layMay_30 rfl rfl ?_
          obtain ⟨r8, hc7, hf⟩ := g_bind hf
          refine g_callVi C (mX5_fits l0 D0 K0 h σ v3 hc7) gX5_layMay_X5_fits rfl rfl rfl ddX5_fits ⟨(Nat.le_of_ble_eq_true rfl), (Nat.le_of_ble_eq_true rfl)⟩ rfl (Nat.le_of_ble_eq_true rfl) rfl rfl rfl (Nat.le_of_ble_eq_true rfl) dX5_layMay_31 ?_
          refine g_if_eq (tgt := 41) hf C dX5_layMay_34 (by decide) (fun hf => ?_) (fun hf => ?_)
          · exact hj5 hf
          · refine g_iconst C dX5_layMay_37 ic_1 ?_
            refine g_goto (tgt := 42) C dX5_layMay_38 (by decide) ?_
            refine g_zast hf C rfl (Nat.le_of_ble_eq_true rfl) dX5_layMay_42 (fun hf => ?_)
            refine g_lets hf (fun σ9 hf => ?_)
            refine g_iinc C 2 [1, 2, 0] dX5_layMay_43 rfl ic_1 (Nat.le_of_ble_eq_true rfl) rfl ?_
            refine g_goto (tgt := 8) C dX5_layMay_46 (by decide) ?_
            exact ih (v3 + (1 : Int32)) σ9 hf
set_option maxHeartbeats 4000000 in
set_option maxRecDepth 100000 in
theorem mX5_layMay (l0 : Launch) (D0 : va_G) (K0 : Nat → ClassId) (h : Nat → Nat) (σ : pS) (a1 : Int32) {r : Unit} {u : pS} (hf : fX5_layMay σ a1 = some (r, u)) : Met l0 yX5_layMay wsX5_layMay ({ frames := 6, cells := 0, slots := 0, locals := 133 } : Room) (va_Pc [.ref (h 0), .int a1] (pIn wM D0 K0 h σ)) (va_Qv (fun u' => u' = u) (pOut wM D0 K0 h) (pA wM h)) 0 0 (pA wM h) := by
  refine p_metV (lv := [(0, .ref (h 0)), (1, .int a1)]) (by decide +kernel) rfl rfl (Nat.le_of_ble_eq_true rfl) rfl (fun X C hret => ?_)
  unfold fX5_layMay at hf
  refine g_aload_n C 0 dX5_layMay_0 rfl rfl ?_
  refine g_iload_n C 1 dX5_layMay_1 rfl rfl ?_
  obtain ⟨r2, hc1, hf⟩ := g_bind hf
  refine g_callVi C (mX5_payable l0 D0 K0 h σ a1 hc1) gX5_layMay_X5_payable rfl rfl rfl ddX5_payable ⟨(Nat.le_of_ble_eq_true rfl), (Nat.le_of_ble_eq_true rfl)⟩ rfl (Nat.le_of_ble_eq_true rfl) rfl rfl rfl (Nat.le_of_ble_eq_true rfl) dX5_layMay_2 ?_
  refine g_istore_n C [1, 0] dX5_layMay_5 rfl (Nat.le_of_ble_eq_true rfl) rfl ?_
  refine g_iconst C dX5_layMay_6 ic_0 ?_
  refine g_istore_n C [1, 2, 0] dX5_layMay_7 rfl (Nat.le_of_ble_eq_true rfl) rfl ?_
  refine lX5_layMay_8_ok r2 C hret (fun σ10 hf => ?_) FU (0 : Int32) σ hf
  exact g_retvW hf hret dX5_layMay_49
/-! X5_gain -/
theorem in_X5_gain_X5 : ∀ q ∈ u_ws RX5 TX5 30, q ∈ wsX5_gain := by decide +kernel
theorem lk_X5_gain_0 : Cond.fieldLink RX5 143 "EmptyHouseModel" "debtMany" "I" ∈ wsX5_gain := by decide +kernel
theorem ddX5_gain : yX5_gain.cls = RX5 ∧ yX5_gain.cls ≠ "java/lang/invoke/MethodHandle" ∧ yX5_gain.cls ≠ "java/lang/invoke/VarHandle" ∧ (parseMethodDescriptor yX5_gain.desc).map (fun d => d.parameters.length) = some 2 := by decide +kernel
set_option maxHeartbeats 4000000 in
set_option maxRecDepth 100000 in
theorem lX5_gain_5_ok {h : Nat → Nat} {X : Cx} {l0 : Launch} {D0 : va_G} {K0 : Nat → ClassId} (σ : pS) (p1 : Int32) (p2 : Int32) {k47 : Int32 → Option Int32} {r : Int32} (C : Cok wM h X l0 ({ frames := 2, cells := 0, slots := 0, locals := 44 } : Room) D0 K0 cX5_gain 5 RX5 wsX5_gain) (hret : ∀ (pc : Nat) (lv' : List (Nat × Value)), decode cX5_gain pc = .ok (.ireturn, 1) → G wM h X pc lv' [.int r] σ) (hk47 : ∀ (z3 : Int32), k47 z3 = some r → G wM h X 47 [(3, .int z3)] [] σ) : ∀ (F : Nat) (v3 : Int32) (v4 : Int32), lX5_gain_5 σ p1 p2 k47 F v3 v4 = some r → G wM h X 5 [(0, .ref (h 0)), (1, .int p1), (2, .int p2), (3, .int v3), (4, .int v4)] [] σ := by
  intro F
  induction F with
  | zero => intro v3 v4 hf; exact absurd hf (by simp [lX5_gain_5])
  | succ F ih =>
    intro v3 v4 hf
    rw [lX5_gain_5.eq_2] at hf
    refine g_iload C 4 dX5_gain_5 rfl ?_
    refine g_aload_n C 0 dX5_gain_7 rfl rfl ?_
    refine g_getI C in_X5_gain_X5 (k := 12) lk_X5_gain_0 rfl (Nat.le_of_ble_eq_true rfl) rfl (Nat.le_of_ble_eq_true rfl) rfl dX5_gain_8 ?_
    refine g_icmp_ge (tgt := 47) hf C dX5_gain_11 (by decide) (fun hf => ?_) (fun hf => ?_)
    · refine g_lv [3] rfl ?_
      exact hk47 v3 hf
    · refine g_iload_n C 3 dX5_gain_14 rfl rfl ?_
      refine g_iload_n C 1 dX5_gain_15 rfl rfl ?_
      refine g_iload C 4 dX5_gain_16 rfl ?_
      obtain ⟨r2, hc1, hf⟩ := g_bind hf
      refine g_callSi C (mX5_has l0 D0 K0 h σ p1 v4 hc1) gX5_gain_X5_has rfl rfl rfl ddX5_has ⟨(Nat.le_of_ble_eq_true rfl), (Nat.le_of_ble_eq_true rfl)⟩ rfl rfl (Nat.le_of_ble_eq_true rfl) dX5_gain_18 ?_
      refine g_join (P := fun j => ∀ (y4 : Int32), j y4 = some r → G wM h X 39 [(0, .ref (h 0)), (1, .int p1), (2, .int p2), (4, .int v4)] [.int y4, .int v3] σ) hf (fun y4 hf => ?_) (fun j3 hj3 hf => ?_)
      · refine g_iadd C dX5_gain_39 ?_
        refine g_leti hf (fun x5 hf => ?_)
        refine g_istore_n C [1, 2, 3, 0, 4] dX5_gain_40 rfl (Nat.le_of_ble_eq_true rfl) rfl ?_
        refine g_iinc C 4 [1, 2, 3, 4, 0] dX5_gain_41 rfl ic_1 (Nat.le_of_ble_eq_true rfl) rfl ?_
        refine g_goto (tgt := 5) C dX5_gain_44 (by decide) ?_
        exact ih x5 (v4 + (1 : Int32)) hf
      · refine g_if_eq (tgt := 38) hf C dX5_gain_21 (by decide) (fun hf => ?_) (fun hf => ?_)
        · refine g_iconst C dX5_gain_38 ic_0 ?_
          refine g_lv [0, 1, 2, 4] rfl ?_
          exact hj3 (0 : Int32) hf
        · refine g_sipush C dX5_gain_24 sp_10000 ?_
          refine g_aload_n C 0 dX5_gain_27 rfl rfl ?_
          refine g_iload C 4 dX5_gain_28 rfl ?_
          refine g_iload_n C 2 dX5_gain_30 rfl rfl ?_
          obtain ⟨r7, hc6, hf⟩ := g_bind hf
          refine g_callVi C (mX5_costOf l0 D0 K0 h σ v4 p2 hc6) gX5_gain_X5_costOf rfl rfl rfl ddX5_costOf ⟨(Nat.le_of_ble_eq_true rfl), (Nat.le_of_ble_eq_true rfl)⟩ rfl (Nat.le_of_ble_eq_true rfl) rfl rfl rfl (Nat.le_of_ble_eq_true rfl) dX5_gain_31 ?_
          refine g_isub C dX5_gain_34 ?_
          refine g_goto (tgt := 39) C dX5_gain_35 (by decide) ?_
          refine g_lv [0, 1, 2, 4] rfl ?_
          exact hj3 ((10000 : Int32) - r7) hf
set_option maxHeartbeats 4000000 in
set_option maxRecDepth 100000 in
theorem mX5_gain (l0 : Launch) (D0 : va_G) (K0 : Nat → ClassId) (h : Nat → Nat) (σ : pS) (a1 : Int32) (a2 : Int32) {r : Int32} (hf : fX5_gain σ a1 a2 = some r) : Met l0 yX5_gain wsX5_gain ({ frames := 2, cells := 0, slots := 0, locals := 44 } : Room) (va_Pc [.ref (h 0), .int a1, .int a2] (pIn wM D0 K0 h σ)) (va_Qi (fun r' u' => r' = r ∧ u' = σ) (pOut wM D0 K0 h) (pA wM h)) 0 0 (pA wM h) := by
  refine p_metI (lv := [(0, .ref (h 0)), (1, .int a1), (2, .int a2)]) (by decide +kernel) rfl rfl (Nat.le_of_ble_eq_true rfl) rfl (fun X C hret => ?_)
  unfold fX5_gain at hf
  refine g_iconst C dX5_gain_0 ic_0 ?_
  refine g_istore_n C [1, 2, 3, 0] dX5_gain_1 rfl (Nat.le_of_ble_eq_true rfl) rfl ?_
  refine g_iconst C dX5_gain_2 ic_0 ?_
  refine g_istore C [1, 2, 3, 4, 0] dX5_gain_3 (Nat.le_of_ble_eq_true rfl) rfl ?_
  refine lX5_gain_5_ok σ a1 a2 C hret (fun y8 hf => ?_) FU (0 : Int32) (0 : Int32) hf
  refine g_iload_n C 0 dX5_gain_47 rfl rfl ?_
  exact g_reti hf hret dX5_gain_48
/-! X5_layBest -/
theorem in_X5_layBest_X5 : ∀ q ∈ u_ws RX5 TX5 30, q ∈ wsX5_layBest := by decide +kernel
theorem lk_X5_layBest_0 : Cond.fieldLink RX5 51 "EmptyHouseModel" "may" "[Z" ∈ wsX5_layBest := by decide +kernel
theorem lk_X5_layBest_1 : Cond.fieldLink RX5 44 "EmptyHouseModel" "bests" "[I" ∈ wsX5_layBest := by decide +kernel
theorem lk_X5_layBest_2 : Cond.fieldLink RX5 47 "EmptyHouseModel" "waysOn" "[J" ∈ wsX5_layBest := by decide +kernel
theorem ddX5_layBest : yX5_layBest.cls = RX5 ∧ yX5_layBest.cls ≠ "java/lang/invoke/MethodHandle" ∧ yX5_layBest.cls ≠ "java/lang/invoke/VarHandle" ∧ (parseMethodDescriptor yX5_layBest.desc).map (fun d => d.parameters.length) = some 2 := by decide +kernel
set_option maxHeartbeats 4000000 in
set_option maxRecDepth 100000 in
theorem lX5_layBest_18_ok {h : Nat → Nat} {X : Cx} {l0 : Launch} {D0 : va_G} {K0 : Nat → ClassId} (σ : pS) (p1 : Int32) (p2 : Int32) (p3 : Int32) {k130 : Int32 → Int64 → Option (Unit × pS)} {r : Unit} {u : pS} (C : Cok wM h X l0 ({ frames := 3, cells := 0, slots := 0, locals := 68 } : Room) D0 K0 cX5_layBest 9 RX5 wsX5_layBest) (hret : ∀ (pc : Nat) (lv' : List (Nat × Value)), decode cX5_layBest pc = .ok (.return_, 1) → G wM h X pc lv' [] u) (hk130 : ∀ (z4 : Int32) (z5 : Int64), k130 z4 z5 = some (r, u) → G wM h X 130 [(0, .ref (h 0)), (1, .int p1), (2, .int p2), (4, .int z4), (5, .long z5)] [] σ) : ∀ (F : Nat) (v4 : Int32) (v5 : Int64) (v7 : Int32), lX5_layBest_18 σ p1 p2 p3 k130 F v4 v5 v7 = some (r, u) → G wM h X 18 [(0, .ref (h 0)), (1, .int p1), (2, .int p2), (3, .int p3), (4, .int v4), (5, .long v5), (7, .int v7)] [] σ := by
  intro F
  induction F with
  | zero => intro v4 v5 v7 hf; exact absurd hf (by simp [lX5_layBest_18])
  | succ F ih =>
    intro v4 v5 v7 hf
    rw [lX5_layBest_18.eq_2] at hf
    refine g_iload C 6 dX5_layBest_18 rfl ?_
    refine g_if_lt (tgt := 130) hf C dX5_layBest_20 (by decide) (fun hf => ?_) (fun hf => ?_)
    · refine g_lv [0, 1, 2, 4, 5] rfl ?_
      exact hk130 v4 v5 hf
    · refine g_aload_n C 0 dX5_layBest_23 rfl rfl ?_
      refine g_getC (n := 14) C in_X5_layBest_X5 (k := 25) lk_X5_layBest_0 rfl (Nat.le_of_ble_eq_true rfl) rfl (Nat.le_of_ble_eq_true rfl) rfl dX5_layBest_24 ?_
      refine g_iload C 6 dX5_layBest_27 rfl ?_
      refine g_zald hf C rfl (Nat.le_of_ble_eq_true rfl) dX5_layBest_29 (fun hf => ?_)
      refine g_join (P := fun j => ∀ (y5 : Int32) (y6 : Int64), j y5 y6 = some (r, u) → G wM h X 110 [(0, .ref (h 0)), (1, .int p1), (2, .int p2), (3, .int p3), (4, .int y5), (5, .long y6), (7, .int v7)] [] σ) hf (fun y5 y6 hf => ?_) (fun j4 hj4 hf => ?_)
      · refine g_iload C 6 dX5_layBest_110 rfl ?_
        refine g_if_ne (tgt := 119) hf C dX5_layBest_112 (by decide) (fun hf => ?_) (fun hf => ?_)
        · refine g_iload C 6 dX5_layBest_119 rfl ?_
          refine g_iconst C dX5_layBest_121 ic_1 ?_
          refine g_isub C dX5_layBest_122 ?_
          refine g_iload_n C 3 dX5_layBest_123 rfl rfl ?_
          refine g_iand C dX5_layBest_124 ?_
          refine g_leti hf (fun x7 hf => ?_)
          refine g_istore C [1, 2, 3, 4, 5, 6, 0] dX5_layBest_125 (Nat.le_of_ble_eq_true rfl) rfl ?_
          refine g_goto (tgt := 18) C dX5_layBest_127 (by decide) ?_
          exact ih y5 y6 x7 hf
        · refine g_iconst C dX5_layBest_115 ic_m1 ?_
          refine g_goto (tgt := 125) C dX5_layBest_116 (by decide) ?_
          refine g_istore C [1, 2, 3, 4, 5, 6, 0] dX5_layBest_125 (Nat.le_of_ble_eq_true rfl) rfl ?_
          refine g_goto (tgt := 18) C dX5_layBest_127 (by decide) ?_
          exact ih y5 y6 (-1 : Int32) hf
      · refine g_if_eq (tgt := 110) hf C dX5_layBest_30 (by decide) (fun hf => ?_) (fun hf => ?_)
        · exact hj4 v4 v5 hf
        · refine g_aload_n C 0 dX5_layBest_33 rfl rfl ?_
          refine g_iload C 6 dX5_layBest_34 rfl ?_
          refine g_iload_n C 1 dX5_layBest_36 rfl rfl ?_
          obtain ⟨r9, hc8, hf⟩ := g_bind hf
          refine g_callVi C (mX5_gain l0 D0 K0 h σ v7 p1 hc8) gX5_layBest_X5_gain rfl rfl rfl ddX5_gain ⟨(Nat.le_of_ble_eq_true rfl), (Nat.le_of_ble_eq_true rfl)⟩ rfl (Nat.le_of_ble_eq_true rfl) rfl rfl rfl (Nat.le_of_ble_eq_true rfl) dX5_layBest_37 ?_
          refine g_aload_n C 0 dX5_layBest_40 rfl rfl ?_
          refine g_getC (n := 12) C in_X5_layBest_X5 (k := 23) lk_X5_layBest_1 rfl (Nat.le_of_ble_eq_true rfl) rfl (Nat.le_of_ble_eq_true rfl) rfl dX5_layBest_41 ?_
          refine g_iload_n C 1 dX5_layBest_44 rfl rfl ?_
          refine g_iconst C dX5_layBest_45 ic_1 ?_
          refine g_iadd C dX5_layBest_46 ?_
          refine g_iload_n C 2 dX5_layBest_47 rfl rfl ?_
          refine g_iload C 6 dX5_layBest_48 rfl ?_
          refine g_ior C dX5_layBest_50 ?_
          obtain ⟨r11, hc10, hf⟩ := g_bind hf
          refine g_callSi C (mX5_spot l0 D0 K0 h σ (p1 + (1 : Int32)) (p2 ||| v7) hc10) gX5_layBest_X5_spot rfl rfl rfl ddX5_spot ⟨(Nat.le_of_ble_eq_true rfl), (Nat.le_of_ble_eq_true rfl)⟩ rfl rfl (Nat.le_of_ble_eq_true rfl) dX5_layBest_51 ?_
          refine g_iald hf C rfl (Nat.le_of_ble_eq_true rfl) dX5_layBest_54 (fun hf => ?_)
          refine g_iadd C dX5_layBest_55 ?_
          refine g_leti hf (fun x12 hf => ?_)
          refine g_istore C [1, 2, 3, 4, 5, 6, 7, 0] dX5_layBest_56 (Nat.le_of_ble_eq_true rfl) rfl ?_
          refine g_lload C 5 dX5_layBest_58 rfl ?_
          refine g_lconst C dX5_layBest_60 lc_0 ?_
          refine g_lcmp C dX5_layBest_61 ?_
          refine g_join (P := fun j => ∀ (y14 : Int32) (y15 : Int64), j y14 y15 = some (r, u) → G wM h X 79 [(0, .ref (h 0)), (1, .int p1), (2, .int p2), (3, .int p3), (4, .int y14), (5, .long y15), (7, .int v7), (8, .int x12)] [] σ) hf (fun y14 y15 hf => ?_) (fun j13 hj13 hf => ?_)
          · refine g_lload C 5 dX5_layBest_79 rfl ?_
            refine g_iload C 7 dX5_layBest_81 rfl ?_
            refine g_iload C 4 dX5_layBest_83 rfl ?_
            refine g_icmp_ne (tgt := 106) hf C dX5_layBest_85 (by decide) (fun hf => ?_) (fun hf => ?_)
            · refine g_lconst C dX5_layBest_106 lc_0 ?_
              refine g_ladd C dX5_layBest_107 ?_
              refine g_letl hf (fun x16 hf => ?_)
              refine g_lstore C [1, 2, 3, 4, 5, 0, 6] dX5_layBest_108 (Nat.le_of_ble_eq_true rfl) rfl ?_
              exact hj4 y14 x16 hf
            · refine g_aload_n C 0 dX5_layBest_88 rfl rfl ?_
              refine g_getC (n := 13) C in_X5_layBest_X5 (k := 24) lk_X5_layBest_2 rfl (Nat.le_of_ble_eq_true rfl) rfl (Nat.le_of_ble_eq_true rfl) rfl dX5_layBest_89 ?_
              refine g_iload_n C 1 dX5_layBest_92 rfl rfl ?_
              refine g_iconst C dX5_layBest_93 ic_1 ?_
              refine g_iadd C dX5_layBest_94 ?_
              refine g_iload_n C 2 dX5_layBest_95 rfl rfl ?_
              refine g_iload C 6 dX5_layBest_96 rfl ?_
              refine g_ior C dX5_layBest_98 ?_
              obtain ⟨r18, hc17, hf⟩ := g_bind hf
              refine g_callSi C (mX5_spot l0 D0 K0 h σ (p1 + (1 : Int32)) (p2 ||| v7) hc17) gX5_layBest_X5_spot rfl rfl rfl ddX5_spot ⟨(Nat.le_of_ble_eq_true rfl), (Nat.le_of_ble_eq_true rfl)⟩ rfl rfl (Nat.le_of_ble_eq_true rfl) dX5_layBest_99 ?_
              refine g_lald hf C rfl (Nat.le_of_ble_eq_true rfl) dX5_layBest_102 (fun hf => ?_)
              refine g_goto (tgt := 107) C dX5_layBest_103 (by decide) ?_
              refine g_ladd C dX5_layBest_107 ?_
              refine g_letl hf (fun x19 hf => ?_)
              refine g_lstore C [1, 2, 3, 4, 5, 0, 6] dX5_layBest_108 (Nat.le_of_ble_eq_true rfl) rfl ?_
              exact hj4 y14 x19 hf
          · refine g_join (P := fun j => j = some (r, u) → G wM h X 72 [(0, .ref (h 0)), (1, .int p1), (2, .int p2), (3, .int p3), (7, .int v7), (8, .int x12)] [] σ) hf (fun hf => ?_) (fun j20 hj20 hf => ?_)
            · refine g_iload C 5 dX5_layBest_72 rfl ?_
              refine g_istore C [1, 2, 3, 4, 0, 5, 6] dX5_layBest_74 (Nat.le_of_ble_eq_true rfl) rfl ?_
              refine g_lconst C dX5_layBest_76 lc_0 ?_
              refine g_lstore C [1, 2, 3, 4, 5, 0, 6, 7] dX5_layBest_77 (Nat.le_of_ble_eq_true rfl) rfl ?_
              exact hj13 x12 (0 : Int64) hf
            · refine g_if_eq (tgt := 72) hf C dX5_layBest_62 (by decide) (fun hf => ?_) (fun hf => ?_)
              · refine g_lv [0, 1, 2, 3, 6, 7] rfl ?_
                exact hj20 hf
              · refine g_iload C 7 dX5_layBest_65 rfl ?_
                refine g_iload C 4 dX5_layBest_67 rfl ?_
                refine g_icmp_le (tgt := 79) hf C dX5_layBest_69 (by decide) (fun hf => ?_) (fun hf => ?_)
                · exact hj13 v4 v5 hf
                · refine g_lv [0, 1, 2, 3, 6, 7] rfl ?_
                  exact hj20 hf
set_option maxHeartbeats 4000000 in
set_option maxRecDepth 100000 in
theorem mX5_layBest (l0 : Launch) (D0 : va_G) (K0 : Nat → ClassId) (h : Nat → Nat) (σ : pS) (a1 : Int32) (a2 : Int32) {r : Unit} {u : pS} (hf : fX5_layBest σ a1 a2 = some (r, u)) : Met l0 yX5_layBest wsX5_layBest ({ frames := 3, cells := 0, slots := 0, locals := 68 } : Room) (va_Pc [.ref (h 0), .int a1, .int a2] (pIn wM D0 K0 h σ)) (va_Qv (fun u' => u' = u) (pOut wM D0 K0 h) (pA wM h)) 0 0 (pA wM h) := by
  refine p_metV (lv := [(0, .ref (h 0)), (1, .int a1), (2, .int a2)]) (by decide +kernel) rfl rfl (Nat.le_of_ble_eq_true rfl) rfl (fun X C hret => ?_)
  unfold fX5_layBest at hf
  refine g_aload_n C 0 dX5_layBest_0 rfl rfl ?_
  obtain ⟨r2, hc1, hf⟩ := g_bind hf
  refine g_callVi C (mX5_allDebts l0 D0 K0 h σ hc1) gX5_layBest_X5_allDebts rfl rfl rfl ddX5_allDebts ⟨(Nat.le_of_ble_eq_true rfl), (Nat.le_of_ble_eq_true rfl)⟩ rfl (Nat.le_of_ble_eq_true rfl) rfl rfl rfl (Nat.le_of_ble_eq_true rfl) dX5_layBest_1 ?_
  refine g_iload_n C 2 dX5_layBest_4 rfl rfl ?_
  refine g_iconst C dX5_layBest_5 ic_m1 ?_
  refine g_ixor C dX5_layBest_6 ?_
  refine g_iand C dX5_layBest_7 ?_
  refine g_leti hf (fun x3 hf => ?_)
  refine g_istore_n C [1, 2, 3, 0] dX5_layBest_8 rfl (Nat.le_of_ble_eq_true rfl) rfl ?_
  refine g_iconst C dX5_layBest_9 ic_0 ?_
  refine g_istore C [1, 2, 3, 4, 0] dX5_layBest_10 (Nat.le_of_ble_eq_true rfl) rfl ?_
  refine g_lconst C dX5_layBest_12 lc_0 ?_
  refine g_lstore C [1, 2, 3, 4, 5, 0] dX5_layBest_13 (Nat.le_of_ble_eq_true rfl) rfl ?_
  refine g_iload_n C 3 dX5_layBest_15 rfl rfl ?_
  refine g_istore C [1, 2, 3, 4, 5, 6, 0] dX5_layBest_16 (Nat.le_of_ble_eq_true rfl) rfl ?_
  refine lX5_layBest_18_ok σ a1 a2 x3 C hret (fun y21 y22 hf => ?_) FU (0 : Int32) (0 : Int64) x3 hf
  refine g_aload_n C 0 dX5_layBest_130 rfl rfl ?_
  refine g_getC (n := 12) C in_X5_layBest_X5 (k := 23) lk_X5_layBest_1 rfl (Nat.le_of_ble_eq_true rfl) rfl (Nat.le_of_ble_eq_true rfl) rfl dX5_layBest_131 ?_
  refine g_iload_n C 1 dX5_layBest_134 rfl rfl ?_
  refine g_iload_n C 2 dX5_layBest_135 rfl rfl ?_
  obtain ⟨r24, hc23, hf⟩ := g_bind hf
  refine g_callSi C (mX5_spot l0 D0 K0 h σ a1 a2 hc23) gX5_layBest_X5_spot rfl rfl rfl ddX5_spot ⟨(Nat.le_of_ble_eq_true rfl), (Nat.le_of_ble_eq_true rfl)⟩ rfl rfl (Nat.le_of_ble_eq_true rfl) dX5_layBest_136 ?_
  refine g_iload C 3 dX5_layBest_139 rfl ?_
  refine g_iast hf C rfl (Nat.le_of_ble_eq_true rfl) dX5_layBest_141 (fun hf => ?_)
  refine g_lets hf (fun σ25 hf => ?_)
  refine g_aload_n C 0 dX5_layBest_142 rfl rfl ?_
  refine g_getC (n := 13) C in_X5_layBest_X5 (k := 24) lk_X5_layBest_2 rfl (Nat.le_of_ble_eq_true rfl) rfl (Nat.le_of_ble_eq_true rfl) rfl dX5_layBest_143 ?_
  refine g_iload_n C 1 dX5_layBest_146 rfl rfl ?_
  refine g_iload_n C 2 dX5_layBest_147 rfl rfl ?_
  obtain ⟨r27, hc26, hf⟩ := g_bind hf
  refine g_callSi C (mX5_spot l0 D0 K0 h σ25 a1 a2 hc26) gX5_layBest_X5_spot rfl rfl rfl ddX5_spot ⟨(Nat.le_of_ble_eq_true rfl), (Nat.le_of_ble_eq_true rfl)⟩ rfl rfl (Nat.le_of_ble_eq_true rfl) dX5_layBest_148 ?_
  refine g_lload C 4 dX5_layBest_151 rfl ?_
  refine g_last hf C rfl (Nat.le_of_ble_eq_true rfl) dX5_layBest_153 (fun hf => ?_)
  refine g_lets hf (fun σ28 hf => ?_)
  exact g_retvW hf hret dX5_layBest_154
/-! X5_layRounds -/
theorem in_X5_layRounds_X5 : ∀ q ∈ u_ws RX5 TX5 30, q ∈ wsX5_layRounds := by decide +kernel
theorem lk_X5_layRounds_0 : Cond.fieldLink RX5 143 "EmptyHouseModel" "debtMany" "I" ∈ wsX5_layRounds := by decide +kernel
theorem lk_X5_layRounds_1 : Cond.fieldLink RX5 44 "EmptyHouseModel" "bests" "[I" ∈ wsX5_layRounds := by decide +kernel
theorem lk_X5_layRounds_2 : Cond.fieldLink RX5 47 "EmptyHouseModel" "waysOn" "[J" ∈ wsX5_layRounds := by decide +kernel
theorem ddX5_layRounds : yX5_layRounds.cls = RX5 ∧ yX5_layRounds.cls ≠ "java/lang/invoke/MethodHandle" ∧ yX5_layRounds.cls ≠ "java/lang/invoke/VarHandle" ∧ (parseMethodDescriptor yX5_layRounds.desc).map (fun d => d.parameters.length) = some 1 := by decide +kernel
set_option maxHeartbeats 4000000 in
set_option maxRecDepth 100000 in
theorem lX5_layRounds_15_ok {h : Nat → Nat} {X : Cx} {l0 : Launch} {D0 : va_G} {K0 : Nat → ClassId} (σ : pS) (p1 : Int32) (p2 : Int32) {k54 : Int32 → Option (Unit × pS)} {r : Unit} {u : pS} (C : Cok wM h X l0 ({ frames := 7, cells := 0, slots := 0, locals := 156 } : Room) D0 K0 cX5_layRounds 5 RX5 wsX5_layRounds) (hret : ∀ (pc : Nat) (lv' : List (Nat × Value)), decode cX5_layRounds pc = .ok (.return_, 1) → G wM h X pc lv' [] u) (hk54 : ∀ (z3 : Int32), k54 z3 = some (r, u) → G wM h X 54 [(0, .ref (h 0)), (1, .int p1), (2, .int p2), (3, .int z3)] [] σ) : ∀ (F : Nat) (v3 : Int32) (v4 : Int32), lX5_layRounds_15 σ p1 p2 k54 F v3 v4 = some (r, u) → G wM h X 15 [(0, .ref (h 0)), (1, .int p1), (2, .int p2), (3, .int v3), (4, .int v4)] [] σ := by
  intro F
  induction F with
  | zero => intro v3 v4 hf; exact absurd hf (by simp [lX5_layRounds_15])
  | succ F ih =>
    intro v3 v4 hf
    rw [lX5_layRounds_15.eq_2] at hf
    refine g_iload C 4 dX5_layRounds_15 rfl ?_
    refine g_aload_n C 0 dX5_layRounds_17 rfl rfl ?_
    refine g_getI C in_X5_layRounds_X5 (k := 12) lk_X5_layRounds_0 rfl (Nat.le_of_ble_eq_true rfl) rfl (Nat.le_of_ble_eq_true rfl) rfl dX5_layRounds_18 ?_
    refine g_icmp_ge (tgt := 54) hf C dX5_layRounds_21 (by decide) (fun hf => ?_) (fun hf => ?_)
    · refine g_lv [0, 1, 2, 3] rfl ?_
      exact hk54 v3 hf
    · refine g_iload_n C 3 dX5_layRounds_24 rfl rfl ?_
      refine g_iload_n C 2 dX5_layRounds_25 rfl rfl ?_
      refine g_iload C 4 dX5_layRounds_26 rfl ?_
      obtain ⟨r4, hc3, hf⟩ := g_bind hf
      refine g_callSi C (mX5_has l0 D0 K0 h σ p2 v4 hc3) gX5_layRounds_X5_has rfl rfl rfl ddX5_has ⟨(Nat.le_of_ble_eq_true rfl), (Nat.le_of_ble_eq_true rfl)⟩ rfl rfl (Nat.le_of_ble_eq_true rfl) dX5_layRounds_28 ?_
      refine g_join (P := fun j => ∀ (y6 : Int32), j y6 = some (r, u) → G wM h X 46 [(0, .ref (h 0)), (1, .int p1), (2, .int p2), (4, .int v4)] [.int y6, .int v3] σ) hf (fun y6 hf => ?_) (fun j5 hj5 hf => ?_)
      · refine g_iadd C dX5_layRounds_46 ?_
        refine g_leti hf (fun x7 hf => ?_)
        refine g_istore_n C [1, 2, 3, 0, 4] dX5_layRounds_47 rfl (Nat.le_of_ble_eq_true rfl) rfl ?_
        refine g_iinc C 4 [1, 2, 3, 4, 0] dX5_layRounds_48 rfl ic_1 (Nat.le_of_ble_eq_true rfl) rfl ?_
        refine g_goto (tgt := 15) C dX5_layRounds_51 (by decide) ?_
        exact ih x7 (v4 + (1 : Int32)) hf
      · refine g_if_eq (tgt := 38) hf C dX5_layRounds_31 (by decide) (fun hf => ?_) (fun hf => ?_)
        · refine g_aload_n C 0 dX5_layRounds_38 rfl rfl ?_
          refine g_iload C 4 dX5_layRounds_39 rfl ?_
          refine g_bipush C dX5_layRounds_41 bp_12 ?_
          obtain ⟨r9, hc8, hf⟩ := g_bind hf
          refine g_callVi C (mX5_costOf l0 D0 K0 h σ v4 (12 : Int32) hc8) gX5_layRounds_X5_costOf rfl rfl rfl ddX5_costOf ⟨(Nat.le_of_ble_eq_true rfl), (Nat.le_of_ble_eq_true rfl)⟩ rfl (Nat.le_of_ble_eq_true rfl) rfl rfl rfl (Nat.le_of_ble_eq_true rfl) dX5_layRounds_43 ?_
          refine g_lv [0, 1, 2, 4] rfl ?_
          exact hj5 r9 hf
        · refine g_iconst C dX5_layRounds_34 ic_0 ?_
          refine g_goto (tgt := 46) C dX5_layRounds_35 (by decide) ?_
          refine g_lv [0, 1, 2, 4] rfl ?_
          exact hj5 (0 : Int32) hf
set_option maxHeartbeats 4000000 in
set_option maxRecDepth 100000 in
theorem lX5_layRounds_2_ok {h : Nat → Nat} {X : Cx} {l0 : Launch} {D0 : va_G} {K0 : Nat → ClassId} (p1 : Int32) {k83 : pS → Option (Unit × pS)} {r : Unit} {u : pS} (C : Cok wM h X l0 ({ frames := 7, cells := 0, slots := 0, locals := 156 } : Room) D0 K0 cX5_layRounds 5 RX5 wsX5_layRounds) (hret : ∀ (pc : Nat) (lv' : List (Nat × Value)), decode cX5_layRounds pc = .ok (.return_, 1) → G wM h X pc lv' [] u) (hk83 : ∀  (σ : pS), k83 σ = some (r, u) → G wM h X 83 [(0, .ref (h 0)), (1, .int p1)] [] σ) : ∀ (F : Nat) (v2 : Int32) (σ : pS), lX5_layRounds_2 p1 k83 F v2 σ = some (r, u) → G wM h X 2 [(0, .ref (h 0)), (1, .int p1), (2, .int v2)] [] σ := by
  intro F
  induction F with
  | zero => intro v2 σ hf; exact absurd hf (by simp [lX5_layRounds_2])
  | succ F ih =>
    intro v2 σ hf
    rw [lX5_layRounds_2.eq_2] at hf
    refine g_iload_n C 2 dX5_layRounds_2 rfl rfl ?_
    refine g_aload_n C 0 dX5_layRounds_3 rfl rfl ?_
    obtain ⟨r2, hc1, hf⟩ := g_bind hf
    refine g_callVi C (mX5_allDebts l0 D0 K0 h σ hc1) gX5_layRounds_X5_allDebts rfl rfl rfl ddX5_allDebts ⟨(Nat.le_of_ble_eq_true rfl), (Nat.le_of_ble_eq_true rfl)⟩ rfl (Nat.le_of_ble_eq_true rfl) rfl rfl rfl (Nat.le_of_ble_eq_true rfl) dX5_layRounds_4 ?_
    refine g_icmp_gt (tgt := 83) hf C dX5_layRounds_7 (by decide) (fun hf => ?_) (fun hf => ?_)
    · refine g_lv [0, 1] rfl ?_
      exact hk83 σ hf
    · refine g_iconst C dX5_layRounds_10 ic_0 ?_
      refine g_istore_n C [1, 2, 3, 0] dX5_layRounds_11 rfl (Nat.le_of_ble_eq_true rfl) rfl ?_
      refine g_iconst C dX5_layRounds_12 ic_0 ?_
      refine g_istore C [1, 2, 3, 4, 0] dX5_layRounds_13 (Nat.le_of_ble_eq_true rfl) rfl ?_
      refine lX5_layRounds_15_ok σ p1 v2 C hret (fun y10 hf => ?_) FU (0 : Int32) (0 : Int32) hf
      refine g_aload_n C 0 dX5_layRounds_54 rfl rfl ?_
      refine g_getC (n := 12) C in_X5_layRounds_X5 (k := 23) lk_X5_layRounds_1 rfl (Nat.le_of_ble_eq_true rfl) rfl (Nat.le_of_ble_eq_true rfl) rfl dX5_layRounds_55 ?_
      refine g_iload_n C 1 dX5_layRounds_58 rfl rfl ?_
      refine g_iload_n C 2 dX5_layRounds_59 rfl rfl ?_
      obtain ⟨r12, hc11, hf⟩ := g_bind hf
      refine g_callSi C (mX5_spot l0 D0 K0 h σ p1 v2 hc11) gX5_layRounds_X5_spot rfl rfl rfl ddX5_spot ⟨(Nat.le_of_ble_eq_true rfl), (Nat.le_of_ble_eq_true rfl)⟩ rfl rfl (Nat.le_of_ble_eq_true rfl) dX5_layRounds_60 ?_
      refine g_iload_n C 3 dX5_layRounds_63 rfl rfl ?_
      refine g_ineg C dX5_layRounds_64 ?_
      refine g_iast hf C rfl (Nat.le_of_ble_eq_true rfl) dX5_layRounds_65 (fun hf => ?_)
      refine g_lets hf (fun σ13 hf => ?_)
      refine g_aload_n C 0 dX5_layRounds_66 rfl rfl ?_
      refine g_getC (n := 13) C in_X5_layRounds_X5 (k := 24) lk_X5_layRounds_2 rfl (Nat.le_of_ble_eq_true rfl) rfl (Nat.le_of_ble_eq_true rfl) rfl dX5_layRounds_67 ?_
      refine g_iload_n C 1 dX5_layRounds_70 rfl rfl ?_
      refine g_iload_n C 2 dX5_layRounds_71 rfl rfl ?_
      obtain ⟨r15, hc14, hf⟩ := g_bind hf
      refine g_callSi C (mX5_spot l0 D0 K0 h σ13 p1 v2 hc14) gX5_layRounds_X5_spot rfl rfl rfl ddX5_spot ⟨(Nat.le_of_ble_eq_true rfl), (Nat.le_of_ble_eq_true rfl)⟩ rfl rfl (Nat.le_of_ble_eq_true rfl) dX5_layRounds_72 ?_
      refine g_lconst C dX5_layRounds_75 lc_1 ?_
      refine g_last hf C rfl (Nat.le_of_ble_eq_true rfl) dX5_layRounds_76 (fun hf => ?_)
      refine g_lets hf (fun σ16 hf => ?_)
      refine g_iinc C 2 [1, 2, 0] dX5_layRounds_77 rfl ic_1 (Nat.le_of_ble_eq_true rfl) rfl ?_
      refine g_goto (tgt := 2) C dX5_layRounds_80 (by decide) ?_
      exact ih (v2 + (1 : Int32)) σ16 hf
set_option maxHeartbeats 4000000 in
set_option maxRecDepth 100000 in
theorem lX5_layRounds_98_ok {h : Nat → Nat} {X : Cx} {l0 : Launch} {D0 : va_G} {K0 : Nat → ClassId} (p2 : Int32) {k118 : pS → Option (Unit × pS)} {r : Unit} {u : pS} (C : Cok wM h X l0 ({ frames := 7, cells := 0, slots := 0, locals := 156 } : Room) D0 K0 cX5_layRounds 5 RX5 wsX5_layRounds) (hret : ∀ (pc : Nat) (lv' : List (Nat × Value)), decode cX5_layRounds pc = .ok (.return_, 1) → G wM h X pc lv' [] u) (hk118 : ∀  (σ : pS), k118 σ = some (r, u) → G wM h X 118 [(0, .ref (h 0)), (2, .int p2)] [] σ) : ∀ (F : Nat) (v3 : Int32) (σ : pS), lX5_layRounds_98 p2 k118 F v3 σ = some (r, u) → G wM h X 98 [(0, .ref (h 0)), (2, .int p2), (3, .int v3)] [] σ := by
  intro F
  induction F with
  | zero => intro v3 σ hf; exact absurd hf (by simp [lX5_layRounds_98])
  | succ F ih =>
    intro v3 σ hf
    rw [lX5_layRounds_98.eq_2] at hf
    refine g_iload_n C 2 dX5_layRounds_98 rfl rfl ?_
    refine g_aload_n C 0 dX5_layRounds_99 rfl rfl ?_
    obtain ⟨r23, hc22, hf⟩ := g_bind hf
    refine g_callVi C (mX5_allDebts l0 D0 K0 h σ hc22) gX5_layRounds_X5_allDebts rfl rfl rfl ddX5_allDebts ⟨(Nat.le_of_ble_eq_true rfl), (Nat.le_of_ble_eq_true rfl)⟩ rfl (Nat.le_of_ble_eq_true rfl) rfl rfl rfl (Nat.le_of_ble_eq_true rfl) dX5_layRounds_100 ?_
    refine g_icmp_gt (tgt := 118) hf C dX5_layRounds_103 (by decide) (fun hf => ?_) (fun hf => ?_)
    · refine g_lv [0, 1] rfl ?_
      exact hk118 σ hf
    · refine g_aload_n C 0 dX5_layRounds_106 rfl rfl ?_
      refine g_iload_n C 1 dX5_layRounds_107 rfl rfl ?_
      refine g_iload_n C 2 dX5_layRounds_108 rfl rfl ?_
      obtain ⟨r25, σ26, hc24, hf⟩ := g_pbind hf
      refine g_callVv C (mX5_layBest l0 D0 K0 h σ p2 v3 hc24) gX5_layRounds_X5_layBest rfl rfl rfl ddX5_layBest ⟨(Nat.le_of_ble_eq_true rfl), (Nat.le_of_ble_eq_true rfl)⟩ rfl (Nat.le_of_ble_eq_true rfl) rfl rfl rfl (Nat.le_of_ble_eq_true rfl) dX5_layRounds_109 ?_
      refine g_iinc C 2 [1, 2, 0] dX5_layRounds_112 rfl ic_1 (Nat.le_of_ble_eq_true rfl) rfl ?_
      refine g_goto (tgt := 98) C dX5_layRounds_115 (by decide) ?_
      exact ih (v3 + (1 : Int32)) σ26 hf
set_option maxHeartbeats 4000000 in
set_option maxRecDepth 100000 in
theorem lX5_layRounds_87_ok {h : Nat → Nat} {X : Cx} {l0 : Launch} {D0 : va_G} {K0 : Nat → ClassId} {k124 : pS → Option (Unit × pS)} {r : Unit} {u : pS} (C : Cok wM h X l0 ({ frames := 7, cells := 0, slots := 0, locals := 156 } : Room) D0 K0 cX5_layRounds 5 RX5 wsX5_layRounds) (hret : ∀ (pc : Nat) (lv' : List (Nat × Value)), decode cX5_layRounds pc = .ok (.return_, 1) → G wM h X pc lv' [] u) (hk124 : ∀  (σ : pS), k124 σ = some (r, u) → G wM h X 124 [] [] σ) : ∀ (F : Nat) (v2 : Int32) (σ : pS), lX5_layRounds_87 k124 F v2 σ = some (r, u) → G wM h X 87 [(0, .ref (h 0)), (2, .int v2)] [] σ := by
  intro F
  induction F with
  | zero => intro v2 σ hf; exact absurd hf (by simp [lX5_layRounds_87])
  | succ F ih =>
    intro v2 σ hf
    rw [lX5_layRounds_87.eq_2] at hf
    refine g_iload_n C 1 dX5_layRounds_87 rfl rfl ?_
    refine g_if_lt (tgt := 124) hf C dX5_layRounds_88 (by decide) (fun hf => ?_) (fun hf => ?_)
    · refine g_lv [] rfl ?_
      exact hk124 σ hf
    · refine g_aload_n C 0 dX5_layRounds_91 rfl rfl ?_
      refine g_iload_n C 1 dX5_layRounds_92 rfl rfl ?_
      obtain ⟨r20, σ21, hc19, hf⟩ := g_pbind hf
      refine g_callVv C (mX5_layMay l0 D0 K0 h σ v2 hc19) gX5_layRounds_X5_layMay rfl rfl rfl ddX5_layMay ⟨(Nat.le_of_ble_eq_true rfl), (Nat.le_of_ble_eq_true rfl)⟩ rfl (Nat.le_of_ble_eq_true rfl) rfl rfl rfl (Nat.le_of_ble_eq_true rfl) dX5_layRounds_93 ?_
      refine g_iconst C dX5_layRounds_96 ic_0 ?_
      refine g_istore_n C [1, 2, 0] dX5_layRounds_97 rfl (Nat.le_of_ble_eq_true rfl) rfl ?_
      refine lX5_layRounds_98_ok v2 C hret (fun σ27 hf => ?_) FU (0 : Int32) σ21 hf
      refine g_iinc C 1 [1, 0] dX5_layRounds_118 rfl ic_m1 (Nat.le_of_ble_eq_true rfl) rfl ?_
      refine g_goto (tgt := 87) C dX5_layRounds_121 (by decide) ?_
      exact ih (v2 + (-1 : Int32)) σ27 hf
set_option maxHeartbeats 4000000 in
set_option maxRecDepth 100000 in
theorem mX5_layRounds (l0 : Launch) (D0 : va_G) (K0 : Nat → ClassId) (h : Nat → Nat) (σ : pS) (a1 : Int32) {r : Unit} {u : pS} (hf : fX5_layRounds σ a1 = some (r, u)) : Met l0 yX5_layRounds wsX5_layRounds ({ frames := 7, cells := 0, slots := 0, locals := 156 } : Room) (va_Pc [.ref (h 0), .int a1] (pIn wM D0 K0 h σ)) (va_Qv (fun u' => u' = u) (pOut wM D0 K0 h) (pA wM h)) 0 0 (pA wM h) := by
  refine p_metV (lv := [(0, .ref (h 0)), (1, .int a1)]) (by decide +kernel) rfl rfl (Nat.le_of_ble_eq_true rfl) rfl (fun X C hret => ?_)
  unfold fX5_layRounds at hf
  refine g_iconst C dX5_layRounds_0 ic_0 ?_
  refine g_istore_n C [1, 2, 0] dX5_layRounds_1 rfl (Nat.le_of_ble_eq_true rfl) rfl ?_
  refine lX5_layRounds_2_ok a1 C hret (fun σ17 hf => ?_) FU (0 : Int32) σ hf
  refine g_iload_n C 1 dX5_layRounds_83 rfl rfl ?_
  refine g_iconst C dX5_layRounds_84 ic_1 ?_
  refine g_isub C dX5_layRounds_85 ?_
  refine g_leti hf (fun x18 hf => ?_)
  refine g_istore_n C [1, 0] dX5_layRounds_86 rfl (Nat.le_of_ble_eq_true rfl) rfl ?_
  refine lX5_layRounds_87_ok  C hret (fun σ28 hf => ?_) FU x18 σ17 hf
  exact g_retvW hf hret dX5_layRounds_124
/-! X5_paidMany -/
theorem in_X5_paidMany_X5 : ∀ q ∈ u_ws RX5 TX5 30, q ∈ wsX5_paidMany := by decide +kernel
theorem lk_X5_paidMany_0 : Cond.fieldLink RX5 44 "EmptyHouseModel" "bests" "[I" ∈ wsX5_paidMany := by decide +kernel
theorem ddX5_paidMany : yX5_paidMany.cls = RX5 ∧ yX5_paidMany.cls ≠ "java/lang/invoke/MethodHandle" ∧ yX5_paidMany.cls ≠ "java/lang/invoke/VarHandle" ∧ (parseMethodDescriptor yX5_paidMany.desc).map (fun d => d.parameters.length) = some 0 := by decide +kernel
set_option maxHeartbeats 4000000 in
set_option maxRecDepth 100000 in
theorem mX5_paidMany (l0 : Launch) (D0 : va_G) (K0 : Nat → ClassId) (h : Nat → Nat) (σ : pS)  {r : Int32} (hf : fX5_paidMany σ = some r) : Met l0 yX5_paidMany wsX5_paidMany ({ frames := 0, cells := 0, slots := 0, locals := 0 } : Room) (va_Pc [.ref (h 0)] (pIn wM D0 K0 h σ)) (va_Qi (fun r' u' => r' = r ∧ u' = σ) (pOut wM D0 K0 h) (pA wM h)) 0 0 (pA wM h) := by
  refine p_metI (lv := [(0, .ref (h 0))]) (by decide +kernel) rfl rfl (Nat.le_of_ble_eq_true rfl) rfl (fun X C hret => ?_)
  unfold fX5_paidMany at hf
  refine g_aload_n C 0 dX5_paidMany_0 rfl rfl ?_
  refine g_getC (n := 12) C in_X5_paidMany_X5 (k := 23) lk_X5_paidMany_0 rfl (Nat.le_of_ble_eq_true rfl) rfl (Nat.le_of_ble_eq_true rfl) rfl dX5_paidMany_1 ?_
  refine g_iconst C dX5_paidMany_4 ic_0 ?_
  refine g_iald hf C rfl (Nat.le_of_ble_eq_true rfl) dX5_paidMany_5 (fun hf => ?_)
  refine g_leti hf (fun x1 hf => ?_)
  refine g_istore_n C [1, 0] dX5_paidMany_6 rfl (Nat.le_of_ble_eq_true rfl) rfl ?_
  refine g_iload_n C 1 dX5_paidMany_7 rfl rfl ?_
  refine g_if_gt (tgt := 15) hf C dX5_paidMany_8 (by decide) (fun hf => ?_) (fun hf => ?_)
  · refine g_iload_n C 1 dX5_paidMany_15 rfl rfl ?_
    refine g_sipush C dX5_paidMany_16 sp_10000 ?_
    refine g_iadd C dX5_paidMany_19 ?_
    refine g_iconst C dX5_paidMany_20 ic_1 ?_
    refine g_isub C dX5_paidMany_21 ?_
    refine g_sipush C dX5_paidMany_22 sp_10000 ?_
    refine g_idivC C dX5_paidMany_25 (by decide) ?_
    exact g_reti hf hret dX5_paidMany_26
  · refine g_iconst C dX5_paidMany_11 ic_0 ?_
    refine g_goto (tgt := 26) C dX5_paidMany_12 (by decide) ?_
    exact g_reti hf hret dX5_paidMany_26
