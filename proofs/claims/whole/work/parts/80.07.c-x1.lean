/-! X1_handOver -/
theorem in_X1_handOver_X1 : ∀ q ∈ u_ws RX1 TX1 5, q ∈ wsX1_handOver := by decide +kernel
theorem lk_X1_handOver_0 : Cond.fieldLink RX1 29 "EmptyHouse$Reader" "into" "LEmptyHouse$Village;" ∈ wsX1_handOver := by decide +kernel
theorem ddX1_handOver : yX1_handOver.cls = RX1 ∧ yX1_handOver.cls ≠ "java/lang/invoke/MethodHandle" ∧ yX1_handOver.cls ≠ "java/lang/invoke/VarHandle" ∧ (parseMethodDescriptor yX1_handOver.desc).map (fun d => d.parameters.length) = some 1 := by decide +kernel
set_option maxHeartbeats 4000000 in
set_option maxRecDepth 100000 in
theorem mX1_handOver (l0 : Launch) (D0 : va_G) (K0 : Nat → ClassId) (h : Nat → Nat) (σ : pS) (a1 : Nat) {r : Nat} {u : pS} (hf : fX1_handOver σ a1 = some (r, u)) : Met l0 yX1_handOver wsX1_handOver ({ frames := 0, cells := 0, slots := 0, locals := 0 } : Room) (va_Pc [.ref (h 1), .ref (h a1)] (pIn wX D0 K0 h σ)) (va_Qr (fun u' => u' = u) (fun u' a U => a = h r ∧ pOut wX D0 K0 h u' U) (pA wX h)) 0 0 (pA wX h) := by
  refine p_metR (lv := [(0, .ref (h 1)), (1, .ref (h a1))]) (by decide +kernel) rfl rfl (Nat.le_of_ble_eq_true rfl) rfl (fun X C hret => ?_)
  unfold fX1_handOver at hf
  refine g_aload_n C 0 dX1_handOver_0 rfl rfl ?_
  refine g_getR C in_X1_handOver_X1 (k := 4) lk_X1_handOver_0 rfl (Nat.le_of_ble_eq_true rfl) rfl (Nat.le_of_ble_eq_true rfl) rfl dX1_handOver_1 ?_
  refine g_astore_n C [1, 2, 0] dX1_handOver_4 rfl (Nat.le_of_ble_eq_true rfl) rfl ?_
  refine g_aload_n C 0 dX1_handOver_5 rfl rfl ?_
  refine g_aload_n C 1 dX1_handOver_6 rfl rfl ?_
  refine g_putR C in_X1_handOver_X1 (k := 4) lk_X1_handOver_0 rfl (Nat.le_of_ble_eq_true rfl) rfl (Nat.le_of_ble_eq_true rfl) tyX1 tyX1_ok nmX1 rfl rfl rfl rfl dX1_handOver_7 ?_
  refine g_lets hf (fun σ1 hf => ?_)
  refine g_aload_n C 2 dX1_handOver_10 rfl rfl ?_
  exact g_retrW hf hret dX1_handOver_11
/-! X1_isNext -/
theorem in_X1_isNext_X1 : ∀ q ∈ u_ws RX1 TX1 5, q ∈ wsX1_isNext := by decide +kernel
theorem lk_X1_isNext_0 : Cond.fieldLink RX1 19 "EmptyHouse$Reader" "place" "I" ∈ wsX1_isNext := by decide +kernel
theorem lk_X1_isNext_1 : Cond.fieldLink RX1 15 "EmptyHouse$Reader" "size" "I" ∈ wsX1_isNext := by decide +kernel
theorem lk_X1_isNext_2 : Cond.fieldLink RX1 9 "EmptyHouse$Reader" "signs" "[B" ∈ wsX1_isNext := by decide +kernel
theorem ddX1_isNext : yX1_isNext.cls = RX1 ∧ yX1_isNext.cls ≠ "java/lang/invoke/MethodHandle" ∧ yX1_isNext.cls ≠ "java/lang/invoke/VarHandle" ∧ (parseMethodDescriptor yX1_isNext.desc).map (fun d => d.parameters.length) = some 1 := by decide +kernel
set_option maxHeartbeats 4000000 in
set_option maxRecDepth 100000 in
theorem mX1_isNext (l0 : Launch) (D0 : va_G) (K0 : Nat → ClassId) (h : Nat → Nat) (σ : pS) (a1 : Int32) {r : Int32} (hf : fX1_isNext σ a1 = some r) : Met l0 yX1_isNext wsX1_isNext ({ frames := 0, cells := 0, slots := 0, locals := 0 } : Room) (va_Pc [.ref (h 1), .int a1] (pIn wX D0 K0 h σ)) (va_Qi (fun r' u' => r' = r ∧ u' = σ) (pOut wX D0 K0 h) (pA wX h)) 0 0 (pA wX h) := by
  refine p_metZ (lv := [(0, .ref (h 1)), (1, .int a1)]) (by decide +kernel) rfl rfl (Nat.le_of_ble_eq_true rfl) rfl (fun X C hret => ?_)
  unfold fX1_isNext at hf
  refine g_aload_n C 0 dX1_isNext_0 rfl rfl ?_
  refine g_getI C in_X1_isNext_X1 (k := 2) lk_X1_isNext_0 rfl (Nat.le_of_ble_eq_true rfl) rfl (Nat.le_of_ble_eq_true rfl) rfl dX1_isNext_1 ?_
  refine g_aload_n C 0 dX1_isNext_4 rfl rfl ?_
  refine g_getI C in_X1_isNext_X1 (k := 1) lk_X1_isNext_1 rfl (Nat.le_of_ble_eq_true rfl) rfl (Nat.le_of_ble_eq_true rfl) rfl dX1_isNext_5 ?_
  refine g_icmp_ge (tgt := 28) hf C dX1_isNext_8 (by decide) (fun hf => ?_) (fun hf => ?_)
  · refine g_iconst C dX1_isNext_28 ic_0 ?_
    exact g_retz hf (by decide) hret dX1_isNext_29
  · refine g_aload_n C 0 dX1_isNext_11 rfl rfl ?_
    refine g_getR C in_X1_isNext_X1 (k := 0) lk_X1_isNext_2 rfl (Nat.le_of_ble_eq_true rfl) rfl (Nat.le_of_ble_eq_true rfl) rfl dX1_isNext_12 ?_
    refine g_aload_n C 0 dX1_isNext_15 rfl rfl ?_
    refine g_getI C in_X1_isNext_X1 (k := 2) lk_X1_isNext_0 rfl (Nat.le_of_ble_eq_true rfl) rfl (Nat.le_of_ble_eq_true rfl) rfl dX1_isNext_16 ?_
    obtain ⟨hg1, hf⟩ := g_guard hf
    obtain ⟨b2, he3, hl4⟩ := isA_spec hg1
    refine g_bald hf C he3 hl4 dX1_isNext_19 (fun hf => ?_)
    refine g_iload_n C 1 dX1_isNext_20 rfl rfl ?_
    refine g_icmp_ne (tgt := 28) hf C dX1_isNext_21 (by decide) (fun hf => ?_) (fun hf => ?_)
    · refine g_iconst C dX1_isNext_28 ic_0 ?_
      exact g_retz hf (by decide) hret dX1_isNext_29
    · refine g_iconst C dX1_isNext_24 ic_1 ?_
      refine g_goto (tgt := 29) C dX1_isNext_25 (by decide) ?_
      exact g_retz hf (by decide) hret dX1_isNext_29
/-! X1_readSign -/
theorem in_X1_readSign_X1 : ∀ q ∈ u_ws RX1 TX1 5, q ∈ wsX1_readSign := by decide +kernel
theorem lk_X1_readSign_0 : Cond.fieldLink RX1 22 "EmptyHouse$Reader" "failed" "Z" ∈ wsX1_readSign := by decide +kernel
theorem lk_X1_readSign_1 : Cond.fieldLink RX1 19 "EmptyHouse$Reader" "place" "I" ∈ wsX1_readSign := by decide +kernel
theorem ddX1_readSign : yX1_readSign.cls = RX1 ∧ yX1_readSign.cls ≠ "java/lang/invoke/MethodHandle" ∧ yX1_readSign.cls ≠ "java/lang/invoke/VarHandle" ∧ (parseMethodDescriptor yX1_readSign.desc).map (fun d => d.parameters.length) = some 1 := by decide +kernel
set_option maxHeartbeats 4000000 in
set_option maxRecDepth 100000 in
theorem mX1_readSign (l0 : Launch) (D0 : va_G) (K0 : Nat → ClassId) (h : Nat → Nat) (σ : pS) (a1 : Int32) {r : Unit} {u : pS} (hf : fX1_readSign σ a1 = some (r, u)) : Met l0 yX1_readSign wsX1_readSign ({ frames := 1, cells := 0, slots := 0, locals := 21 } : Room) (va_Pc [.ref (h 1), .int a1] (pIn wX D0 K0 h σ)) (va_Qv (fun u' => u' = u) (pOut wX D0 K0 h) (pA wX h)) 0 0 (pA wX h) := by
  refine p_metV (lv := [(0, .ref (h 1)), (1, .int a1)]) (by decide +kernel) rfl rfl (Nat.le_of_ble_eq_true rfl) rfl (fun X C hret => ?_)
  unfold fX1_readSign at hf
  refine g_aload_n C 0 dX1_readSign_0 rfl rfl ?_
  refine g_getI C in_X1_readSign_X1 (k := 3) lk_X1_readSign_0 rfl (Nat.le_of_ble_eq_true rfl) rfl (Nat.le_of_ble_eq_true rfl) rfl dX1_readSign_1 ?_
  refine g_join (P := fun j => j = some (r, u) → G wX h X 28 [(0, .ref (h 1))] [] σ) hf (fun hf => ?_) (fun j1 hj1 hf => ?_)
  · refine g_aload_n C 0 dX1_readSign_28 rfl rfl ?_
    refine g_iconst C dX1_readSign_29 ic_1 ?_
    refine g_putI C in_X1_readSign_X1 (k := 3) lk_X1_readSign_0 rfl (Nat.le_of_ble_eq_true rfl) rfl (Nat.le_of_ble_eq_true rfl) tyX1 tyX1_ok nmX1 rfl rfl rfl rfl dX1_readSign_30 ?_
    refine g_lets hf (fun σ2 hf => ?_)
    exact g_retvW hf hret dX1_readSign_33
  · refine g_if_ne (tgt := 28) hf C dX1_readSign_4 (by decide) (fun hf => ?_) (fun hf => ?_)
    · refine g_lv [0] rfl ?_
      exact hj1 hf
    · refine g_aload_n C 0 dX1_readSign_7 rfl rfl ?_
      refine g_iload_n C 1 dX1_readSign_8 rfl rfl ?_
      obtain ⟨r4, hc3, hf⟩ := g_bind hf
      refine g_callVi C (mX1_isNext l0 D0 K0 h σ a1 hc3) gX1_readSign_X1_isNext rfl rfl rfl ddX1_isNext ⟨(Nat.le_of_ble_eq_true rfl), (Nat.le_of_ble_eq_true rfl)⟩ rfl (Nat.le_of_ble_eq_true rfl) rfl rfl rfl (Nat.le_of_ble_eq_true rfl) dX1_readSign_9 ?_
      refine g_if_eq (tgt := 28) hf C dX1_readSign_12 (by decide) (fun hf => ?_) (fun hf => ?_)
      · refine g_lv [0] rfl ?_
        exact hj1 hf
      · refine g_aload_n C 0 dX1_readSign_15 rfl rfl ?_
        refine g_dup C dX1_readSign_16 rfl ?_
        refine g_getI C in_X1_readSign_X1 (k := 2) lk_X1_readSign_1 rfl (Nat.le_of_ble_eq_true rfl) rfl (Nat.le_of_ble_eq_true rfl) rfl dX1_readSign_17 ?_
        refine g_iconst C dX1_readSign_20 ic_1 ?_
        refine g_iadd C dX1_readSign_21 ?_
        refine g_putI C in_X1_readSign_X1 (k := 2) lk_X1_readSign_1 rfl (Nat.le_of_ble_eq_true rfl) rfl (Nat.le_of_ble_eq_true rfl) tyX1 tyX1_ok nmX1 rfl rfl rfl rfl dX1_readSign_22 ?_
        refine g_lets hf (fun σ5 hf => ?_)
        refine g_goto (tgt := 33) C dX1_readSign_25 (by decide) ?_
        exact g_retvW hf hret dX1_readSign_33
/-! X1_isFigureNext -/
theorem in_X1_isFigureNext_X1 : ∀ q ∈ u_ws RX1 TX1 5, q ∈ wsX1_isFigureNext := by decide +kernel
theorem lk_X1_isFigureNext_0 : Cond.fieldLink RX1 19 "EmptyHouse$Reader" "place" "I" ∈ wsX1_isFigureNext := by decide +kernel
theorem lk_X1_isFigureNext_1 : Cond.fieldLink RX1 15 "EmptyHouse$Reader" "size" "I" ∈ wsX1_isFigureNext := by decide +kernel
theorem lk_X1_isFigureNext_2 : Cond.fieldLink RX1 9 "EmptyHouse$Reader" "signs" "[B" ∈ wsX1_isFigureNext := by decide +kernel
theorem ddX1_isFigureNext : yX1_isFigureNext.cls = RX1 ∧ yX1_isFigureNext.cls ≠ "java/lang/invoke/MethodHandle" ∧ yX1_isFigureNext.cls ≠ "java/lang/invoke/VarHandle" ∧ (parseMethodDescriptor yX1_isFigureNext.desc).map (fun d => d.parameters.length) = some 0 := by decide +kernel
set_option maxHeartbeats 4000000 in
set_option maxRecDepth 100000 in
theorem mX1_isFigureNext (l0 : Launch) (D0 : va_G) (K0 : Nat → ClassId) (h : Nat → Nat) (σ : pS)  {r : Int32} (hf : fX1_isFigureNext σ = some r) : Met l0 yX1_isFigureNext wsX1_isFigureNext ({ frames := 0, cells := 0, slots := 0, locals := 0 } : Room) (va_Pc [.ref (h 1)] (pIn wX D0 K0 h σ)) (va_Qi (fun r' u' => r' = r ∧ u' = σ) (pOut wX D0 K0 h) (pA wX h)) 0 0 (pA wX h) := by
  refine p_metZ (lv := [(0, .ref (h 1))]) (by decide +kernel) rfl rfl (Nat.le_of_ble_eq_true rfl) rfl (fun X C hret => ?_)
  unfold fX1_isFigureNext at hf
  refine g_aload_n C 0 dX1_isFigureNext_0 rfl rfl ?_
  refine g_getI C in_X1_isFigureNext_X1 (k := 2) lk_X1_isFigureNext_0 rfl (Nat.le_of_ble_eq_true rfl) rfl (Nat.le_of_ble_eq_true rfl) rfl dX1_isFigureNext_1 ?_
  refine g_aload_n C 0 dX1_isFigureNext_4 rfl rfl ?_
  refine g_getI C in_X1_isFigureNext_X1 (k := 1) lk_X1_isFigureNext_1 rfl (Nat.le_of_ble_eq_true rfl) rfl (Nat.le_of_ble_eq_true rfl) rfl dX1_isFigureNext_5 ?_
  refine g_icmp_ge (tgt := 43) hf C dX1_isFigureNext_8 (by decide) (fun hf => ?_) (fun hf => ?_)
  · refine g_iconst C dX1_isFigureNext_43 ic_0 ?_
    exact g_retz hf (by decide) hret dX1_isFigureNext_44
  · refine g_aload_n C 0 dX1_isFigureNext_11 rfl rfl ?_
    refine g_getR C in_X1_isFigureNext_X1 (k := 0) lk_X1_isFigureNext_2 rfl (Nat.le_of_ble_eq_true rfl) rfl (Nat.le_of_ble_eq_true rfl) rfl dX1_isFigureNext_12 ?_
    refine g_aload_n C 0 dX1_isFigureNext_15 rfl rfl ?_
    refine g_getI C in_X1_isFigureNext_X1 (k := 2) lk_X1_isFigureNext_0 rfl (Nat.le_of_ble_eq_true rfl) rfl (Nat.le_of_ble_eq_true rfl) rfl dX1_isFigureNext_16 ?_
    obtain ⟨hg1, hf⟩ := g_guard hf
    obtain ⟨b2, he3, hl4⟩ := isA_spec hg1
    refine g_bald hf C he3 hl4 dX1_isFigureNext_19 (fun hf => ?_)
    refine g_bipush C dX1_isFigureNext_20 bp_48 ?_
    refine g_icmp_lt (tgt := 43) hf C dX1_isFigureNext_22 (by decide) (fun hf => ?_) (fun hf => ?_)
    · refine g_iconst C dX1_isFigureNext_43 ic_0 ?_
      exact g_retz hf (by decide) hret dX1_isFigureNext_44
    · refine g_aload_n C 0 dX1_isFigureNext_25 rfl rfl ?_
      refine g_getR C in_X1_isFigureNext_X1 (k := 0) lk_X1_isFigureNext_2 rfl (Nat.le_of_ble_eq_true rfl) rfl (Nat.le_of_ble_eq_true rfl) rfl dX1_isFigureNext_26 ?_
      refine g_aload_n C 0 dX1_isFigureNext_29 rfl rfl ?_
      refine g_getI C in_X1_isFigureNext_X1 (k := 2) lk_X1_isFigureNext_0 rfl (Nat.le_of_ble_eq_true rfl) rfl (Nat.le_of_ble_eq_true rfl) rfl dX1_isFigureNext_30 ?_
      refine g_bald hf C he3 hl4 dX1_isFigureNext_33 (fun hf => ?_)
      refine g_bipush C dX1_isFigureNext_34 bp_57 ?_
      refine g_icmp_gt (tgt := 43) hf C dX1_isFigureNext_36 (by decide) (fun hf => ?_) (fun hf => ?_)
      · refine g_iconst C dX1_isFigureNext_43 ic_0 ?_
        exact g_retz hf (by decide) hret dX1_isFigureNext_44
      · refine g_iconst C dX1_isFigureNext_39 ic_1 ?_
        refine g_goto (tgt := 44) C dX1_isFigureNext_40 (by decide) ?_
        exact g_retz hf (by decide) hret dX1_isFigureNext_44
/-! X1_readFigure -/
theorem in_X1_readFigure_X1 : ∀ q ∈ u_ws RX1 TX1 5, q ∈ wsX1_readFigure := by decide +kernel
theorem lk_X1_readFigure_0 : Cond.fieldLink RX1 22 "EmptyHouse$Reader" "failed" "Z" ∈ wsX1_readFigure := by decide +kernel
theorem lk_X1_readFigure_1 : Cond.fieldLink RX1 9 "EmptyHouse$Reader" "signs" "[B" ∈ wsX1_readFigure := by decide +kernel
theorem lk_X1_readFigure_2 : Cond.fieldLink RX1 19 "EmptyHouse$Reader" "place" "I" ∈ wsX1_readFigure := by decide +kernel
theorem ddX1_readFigure : yX1_readFigure.cls = RX1 ∧ yX1_readFigure.cls ≠ "java/lang/invoke/MethodHandle" ∧ yX1_readFigure.cls ≠ "java/lang/invoke/VarHandle" ∧ (parseMethodDescriptor yX1_readFigure.desc).map (fun d => d.parameters.length) = some 0 := by decide +kernel
set_option maxHeartbeats 4000000 in
set_option maxRecDepth 100000 in
theorem mX1_readFigure (l0 : Launch) (D0 : va_G) (K0 : Nat → ClassId) (h : Nat → Nat) (σ : pS)  {r : Int32} {u : pS} (hf : fX1_readFigure σ = some (r, u)) : Met l0 yX1_readFigure wsX1_readFigure ({ frames := 1, cells := 0, slots := 0, locals := 20 } : Room) (va_Pc [.ref (h 1)] (pIn wX D0 K0 h σ)) (va_Qi (fun r' u' => r' = r ∧ u' = u) (pOut wX D0 K0 h) (pA wX h)) 0 0 (pA wX h) := by
  refine p_metI (lv := [(0, .ref (h 1))]) (by decide +kernel) rfl rfl (Nat.le_of_ble_eq_true rfl) rfl (fun X C hret => ?_)
  unfold fX1_readFigure at hf
  refine g_aload_n C 0 dX1_readFigure_0 rfl rfl ?_
  refine g_getI C in_X1_readFigure_X1 (k := 3) lk_X1_readFigure_0 rfl (Nat.le_of_ble_eq_true rfl) rfl (Nat.le_of_ble_eq_true rfl) rfl dX1_readFigure_1 ?_
  refine g_join (P := fun j => j = some (r, u) → G wX h X 14 [(0, .ref (h 1))] [] σ) hf (fun hf => ?_) (fun j1 hj1 hf => ?_)
  · refine g_aload_n C 0 dX1_readFigure_14 rfl rfl ?_
    refine g_iconst C dX1_readFigure_15 ic_1 ?_
    refine g_putI C in_X1_readFigure_X1 (k := 3) lk_X1_readFigure_0 rfl (Nat.le_of_ble_eq_true rfl) rfl (Nat.le_of_ble_eq_true rfl) tyX1 tyX1_ok nmX1 rfl rfl rfl rfl dX1_readFigure_16 ?_
    refine g_lets hf (fun σ2 hf => ?_)
    refine g_iconst C dX1_readFigure_19 ic_0 ?_
    exact g_retiW hf hret dX1_readFigure_20
  · refine g_if_ne (tgt := 14) hf C dX1_readFigure_4 (by decide) (fun hf => ?_) (fun hf => ?_)
    · exact hj1 hf
    · refine g_aload_n C 0 dX1_readFigure_7 rfl rfl ?_
      obtain ⟨r4, hc3, hf⟩ := g_bind hf
      refine g_callVi C (mX1_isFigureNext l0 D0 K0 h σ hc3) gX1_readFigure_X1_isFigureNext rfl rfl rfl ddX1_isFigureNext ⟨(Nat.le_of_ble_eq_true rfl), (Nat.le_of_ble_eq_true rfl)⟩ rfl (Nat.le_of_ble_eq_true rfl) rfl rfl rfl (Nat.le_of_ble_eq_true rfl) dX1_readFigure_8 ?_
      refine g_if_ne (tgt := 21) hf C dX1_readFigure_11 (by decide) (fun hf => ?_) (fun hf => ?_)
      · refine g_aload_n C 0 dX1_readFigure_21 rfl rfl ?_
        refine g_getR C in_X1_readFigure_X1 (k := 0) lk_X1_readFigure_1 rfl (Nat.le_of_ble_eq_true rfl) rfl (Nat.le_of_ble_eq_true rfl) rfl dX1_readFigure_22 ?_
        refine g_aload_n C 0 dX1_readFigure_25 rfl rfl ?_
        refine g_getI C in_X1_readFigure_X1 (k := 2) lk_X1_readFigure_2 rfl (Nat.le_of_ble_eq_true rfl) rfl (Nat.le_of_ble_eq_true rfl) rfl dX1_readFigure_26 ?_
        obtain ⟨hg5, hf⟩ := g_guard hf
        obtain ⟨b6, he7, hl8⟩ := isA_spec hg5
        refine g_bald hf C he7 hl8 dX1_readFigure_29 (fun hf => ?_)
        refine g_bipush C dX1_readFigure_30 bp_48 ?_
        refine g_isub C dX1_readFigure_32 ?_
        refine g_leti hf (fun x9 hf => ?_)
        refine g_istore_n C [1, 0] dX1_readFigure_33 rfl (Nat.le_of_ble_eq_true rfl) rfl ?_
        refine g_aload_n C 0 dX1_readFigure_34 rfl rfl ?_
        refine g_dup C dX1_readFigure_35 rfl ?_
        refine g_getI C in_X1_readFigure_X1 (k := 2) lk_X1_readFigure_2 rfl (Nat.le_of_ble_eq_true rfl) rfl (Nat.le_of_ble_eq_true rfl) rfl dX1_readFigure_36 ?_
        refine g_iconst C dX1_readFigure_39 ic_1 ?_
        refine g_iadd C dX1_readFigure_40 ?_
        refine g_putI C in_X1_readFigure_X1 (k := 2) lk_X1_readFigure_2 rfl (Nat.le_of_ble_eq_true rfl) rfl (Nat.le_of_ble_eq_true rfl) tyX1 tyX1_ok nmX1 rfl rfl rfl rfl dX1_readFigure_41 ?_
        refine g_lets hf (fun σ10 hf => ?_)
        refine g_iload_n C 1 dX1_readFigure_44 rfl rfl ?_
        exact g_retiW hf hret dX1_readFigure_45
      · exact hj1 hf
/-! X1_readNumber -/
theorem in_X1_readNumber_X1 : ∀ q ∈ u_ws RX1 TX1 5, q ∈ wsX1_readNumber := by decide +kernel
theorem lk_X1_readNumber_0 : Cond.fieldLink RX1 22 "EmptyHouse$Reader" "failed" "Z" ∈ wsX1_readNumber := by decide +kernel
theorem ddX1_readNumber : yX1_readNumber.cls = RX1 ∧ yX1_readNumber.cls ≠ "java/lang/invoke/MethodHandle" ∧ yX1_readNumber.cls ≠ "java/lang/invoke/VarHandle" ∧ (parseMethodDescriptor yX1_readNumber.desc).map (fun d => d.parameters.length) = some 2 := by decide +kernel
set_option maxHeartbeats 4000000 in
set_option maxRecDepth 100000 in
theorem mX1_readNumber (l0 : Launch) (D0 : va_G) (K0 : Nat → ClassId) (h : Nat → Nat) (σ : pS) (a1 : Int32) (a2 : Int32) {r : Int32} {u : pS} (hf : fX1_readNumber σ a1 a2 = some (r, u)) : Met l0 yX1_readNumber wsX1_readNumber ({ frames := 2, cells := 0, slots := 0, locals := 41 } : Room) (va_Pc [.ref (h 1), .int a1, .int a2] (pIn wX D0 K0 h σ)) (va_Qi (fun r' u' => r' = r ∧ u' = u) (pOut wX D0 K0 h) (pA wX h)) 0 0 (pA wX h) := by
  refine p_metI (lv := [(0, .ref (h 1)), (1, .int a1), (2, .int a2)]) (by decide +kernel) rfl rfl (Nat.le_of_ble_eq_true rfl) rfl (fun X C hret => ?_)
  unfold fX1_readNumber at hf
  refine g_aload_n C 0 dX1_readNumber_0 rfl rfl ?_
  obtain ⟨r2, σ3, hc1, hf⟩ := g_pbind hf
  refine g_callVi C (mX1_readFigure l0 D0 K0 h σ hc1) gX1_readNumber_X1_readFigure rfl rfl rfl ddX1_readFigure ⟨(Nat.le_of_ble_eq_true rfl), (Nat.le_of_ble_eq_true rfl)⟩ rfl (Nat.le_of_ble_eq_true rfl) rfl rfl rfl (Nat.le_of_ble_eq_true rfl) dX1_readNumber_1 ?_
  refine g_istore_n C [1, 2, 3, 0] dX1_readNumber_4 rfl (Nat.le_of_ble_eq_true rfl) rfl ?_
  refine g_aload_n C 0 dX1_readNumber_5 rfl rfl ?_
  refine g_getI C in_X1_readNumber_X1 (k := 3) lk_X1_readNumber_0 rfl (Nat.le_of_ble_eq_true rfl) rfl (Nat.le_of_ble_eq_true rfl) rfl dX1_readNumber_6 ?_
  refine g_join (P := fun j => ∀ (y5 : Int32) (σ6 : pS), j y5 σ6 = some (r, u) → G wX h X 29 [(0, .ref (h 1)), (1, .int a1), (2, .int a2), (3, .int y5)] [] σ6) hf (fun y5 σ6 hf => ?_) (fun j4 hj4 hf => ?_)
  · refine g_iload_n C 3 dX1_readNumber_29 rfl rfl ?_
    refine g_iload_n C 1 dX1_readNumber_30 rfl rfl ?_
    refine g_join (P := fun j => j = some (r, u) → G wX h X 39 [(0, .ref (h 1)), (3, .int y5)] [] σ6) hf (fun hf => ?_) (fun j7 hj7 hf => ?_)
    · refine g_aload_n C 0 dX1_readNumber_39 rfl rfl ?_
      refine g_iconst C dX1_readNumber_40 ic_1 ?_
      refine g_putI C in_X1_readNumber_X1 (k := 3) lk_X1_readNumber_0 rfl (Nat.le_of_ble_eq_true rfl) rfl (Nat.le_of_ble_eq_true rfl) tyX1 tyX1_ok nmX1 rfl rfl rfl rfl dX1_readNumber_41 ?_
      refine g_lets hf (fun σ8 hf => ?_)
      refine g_iload_n C 1 dX1_readNumber_44 rfl rfl ?_
      exact g_retiW hf hret dX1_readNumber_45
    · refine g_icmp_lt (tgt := 39) hf C dX1_readNumber_31 (by decide) (fun hf => ?_) (fun hf => ?_)
      · refine g_lv [0, 3] rfl ?_
        exact hj7 hf
      · refine g_iload_n C 3 dX1_readNumber_34 rfl rfl ?_
        refine g_iload_n C 2 dX1_readNumber_35 rfl rfl ?_
        refine g_icmp_le (tgt := 44) hf C dX1_readNumber_36 (by decide) (fun hf => ?_) (fun hf => ?_)
        · refine g_iload_n C 3 dX1_readNumber_44 rfl rfl ?_
          exact g_retiW hf hret dX1_readNumber_45
        · refine g_lv [0, 3] rfl ?_
          exact hj7 hf
  · refine g_if_ne (tgt := 29) hf C dX1_readNumber_9 (by decide) (fun hf => ?_) (fun hf => ?_)
    · exact hj4 r2 σ3 hf
    · refine g_aload_n C 0 dX1_readNumber_12 rfl rfl ?_
      obtain ⟨r10, hc9, hf⟩ := g_bind hf
      refine g_callVi C (mX1_isFigureNext l0 D0 K0 h σ3 hc9) gX1_readNumber_X1_isFigureNext rfl rfl rfl ddX1_isFigureNext ⟨(Nat.le_of_ble_eq_true rfl), (Nat.le_of_ble_eq_true rfl)⟩ rfl (Nat.le_of_ble_eq_true rfl) rfl rfl rfl (Nat.le_of_ble_eq_true rfl) dX1_readNumber_13 ?_
      refine g_if_eq (tgt := 29) hf C dX1_readNumber_16 (by decide) (fun hf => ?_) (fun hf => ?_)
      · exact hj4 r2 σ3 hf
      · refine g_bipush C dX1_readNumber_19 bp_10 ?_
        refine g_iload_n C 3 dX1_readNumber_21 rfl rfl ?_
        refine g_imul C dX1_readNumber_22 ?_
        refine g_aload_n C 0 dX1_readNumber_23 rfl rfl ?_
        obtain ⟨r12, σ13, hc11, hf⟩ := g_pbind hf
        refine g_callVi C (mX1_readFigure l0 D0 K0 h σ3 hc11) gX1_readNumber_X1_readFigure rfl rfl rfl ddX1_readFigure ⟨(Nat.le_of_ble_eq_true rfl), (Nat.le_of_ble_eq_true rfl)⟩ rfl (Nat.le_of_ble_eq_true rfl) rfl rfl rfl (Nat.le_of_ble_eq_true rfl) dX1_readNumber_24 ?_
        refine g_iadd C dX1_readNumber_27 ?_
        refine g_leti hf (fun x14 hf => ?_)
        refine g_istore_n C [1, 2, 3, 0] dX1_readNumber_28 rfl (Nat.le_of_ble_eq_true rfl) rfl ?_
        exact hj4 x14 σ13 hf
/-! X1_readSpan -/
theorem in_X1_readSpan_X1 : ∀ q ∈ u_ws RX1 TX1 5, q ∈ wsX1_readSpan := by decide +kernel
theorem lk_X1_readSpan_0 : Cond.fieldLink RX1 22 "EmptyHouse$Reader" "failed" "Z" ∈ wsX1_readSpan := by decide +kernel
theorem ddX1_readSpan : yX1_readSpan.cls = RX1 ∧ yX1_readSpan.cls ≠ "java/lang/invoke/MethodHandle" ∧ yX1_readSpan.cls ≠ "java/lang/invoke/VarHandle" ∧ (parseMethodDescriptor yX1_readSpan.desc).map (fun d => d.parameters.length) = some 0 := by decide +kernel
set_option maxHeartbeats 4000000 in
set_option maxRecDepth 100000 in
theorem lX1_readSpan_27_ok {h : Nat → Nat} {X : Cx} {l0 : Launch} {D0 : va_G} {K0 : Nat → ClassId} (σ : pS) (p2 : Int32) {k53 : Int32 → Option (Int32 × pS)} {r : Int32} {u : pS} (C : Cok wX h X l0 ({ frames := 3, cells := 0, slots := 0, locals := 64 } : Room) D0 K0 cX1_readSpan 5 RX1 wsX1_readSpan) (hret : ∀ (pc : Nat) (lv' : List (Nat × Value)), decode cX1_readSpan pc = .ok (.ireturn, 1) → G wX h X pc lv' [.int r] u) (hk53 : ∀ (z3 : Int32), k53 z3 = some (r, u) → G wX h X 53 [(3, .int z3)] [] σ) : ∀ (F : Nat) (v3 : Int32) (v4 : Int32), lX1_readSpan_27 σ p2 k53 F v3 v4 = some (r, u) → G wX h X 27 [(0, .ref (h 1)), (2, .int p2), (3, .int v3), (4, .int v4)] [] σ := by
  intro F
  induction F with
  | zero => intro v3 v4 hf; exact absurd hf (by simp [lX1_readSpan_27])
  | succ F ih =>
    intro v3 v4 hf
    rw [lX1_readSpan_27.eq_2] at hf
    refine g_iload C 3 dX1_readSpan_27 rfl ?_
    refine g_iload_n C 1 dX1_readSpan_29 rfl rfl ?_
    refine g_icmp_gt (tgt := 53) hf C dX1_readSpan_30 (by decide) (fun hf => ?_) (fun hf => ?_)
    · refine g_lv [2] rfl ?_
      exact hk53 v3 hf
    · refine g_aload_n C 0 dX1_readSpan_33 rfl rfl ?_
      refine g_getI C in_X1_readSpan_X1 (k := 3) lk_X1_readSpan_0 rfl (Nat.le_of_ble_eq_true rfl) rfl (Nat.le_of_ble_eq_true rfl) rfl dX1_readSpan_34 ?_
      refine g_if_ne (tgt := 53) hf C dX1_readSpan_37 (by decide) (fun hf => ?_) (fun hf => ?_)
      · refine g_lv [2] rfl ?_
        exact hk53 v3 hf
      · refine g_iload_n C 2 dX1_readSpan_40 rfl rfl ?_
        refine g_iconst C dX1_readSpan_41 ic_1 ?_
        refine g_iload C 3 dX1_readSpan_42 rfl ?_
        refine g_ishl C dX1_readSpan_44 ?_
        refine g_ior C dX1_readSpan_45 ?_
        refine g_leti hf (fun x10 hf => ?_)
        refine g_istore_n C [1, 2, 0, 3] dX1_readSpan_46 rfl (Nat.le_of_ble_eq_true rfl) rfl ?_
        refine g_iinc C 3 [1, 2, 3, 0] dX1_readSpan_47 rfl ic_1 (Nat.le_of_ble_eq_true rfl) rfl ?_
        refine g_goto (tgt := 27) C dX1_readSpan_50 (by decide) ?_
        exact ih x10 (v4 + (1 : Int32)) hf
set_option maxHeartbeats 4000000 in
set_option maxRecDepth 100000 in
theorem mX1_readSpan (l0 : Launch) (D0 : va_G) (K0 : Nat → ClassId) (h : Nat → Nat) (σ : pS)  {r : Int32} {u : pS} (hf : fX1_readSpan σ = some (r, u)) : Met l0 yX1_readSpan wsX1_readSpan ({ frames := 3, cells := 0, slots := 0, locals := 64 } : Room) (va_Pc [.ref (h 1)] (pIn wX D0 K0 h σ)) (va_Qi (fun r' u' => r' = r ∧ u' = u) (pOut wX D0 K0 h) (pA wX h)) 0 0 (pA wX h) := by
  refine p_metI (lv := [(0, .ref (h 1))]) (by decide +kernel) rfl rfl (Nat.le_of_ble_eq_true rfl) rfl (fun X C hret => ?_)
  unfold fX1_readSpan at hf
  refine g_aload_n C 0 dX1_readSpan_0 rfl rfl ?_
  refine g_iconst C dX1_readSpan_1 ic_0 ?_
  refine g_bipush C dX1_readSpan_2 bp_11 ?_
  obtain ⟨r2, σ3, hc1, hf⟩ := g_pbind hf
  refine g_callVi C (mX1_readNumber l0 D0 K0 h σ (0 : Int32) (11 : Int32) hc1) gX1_readSpan_X1_readNumber rfl rfl rfl ddX1_readNumber ⟨(Nat.le_of_ble_eq_true rfl), (Nat.le_of_ble_eq_true rfl)⟩ rfl (Nat.le_of_ble_eq_true rfl) rfl rfl rfl (Nat.le_of_ble_eq_true rfl) dX1_readSpan_4 ?_
  refine g_istore_n C [1, 0] dX1_readSpan_7 rfl (Nat.le_of_ble_eq_true rfl) rfl ?_
  refine g_aload_n C 0 dX1_readSpan_8 rfl rfl ?_
  refine g_bipush C dX1_readSpan_9 bp_45 ?_
  obtain ⟨r5, σ6, hc4, hf⟩ := g_pbind hf
  refine g_callVv C (mX1_readSign l0 D0 K0 h σ3 (45 : Int32) hc4) gX1_readSpan_X1_readSign rfl rfl rfl ddX1_readSign ⟨(Nat.le_of_ble_eq_true rfl), (Nat.le_of_ble_eq_true rfl)⟩ rfl (Nat.le_of_ble_eq_true rfl) rfl rfl rfl (Nat.le_of_ble_eq_true rfl) dX1_readSpan_11 ?_
  refine g_aload_n C 0 dX1_readSpan_14 rfl rfl ?_
  refine g_iload_n C 1 dX1_readSpan_15 rfl rfl ?_
  refine g_bipush C dX1_readSpan_16 bp_11 ?_
  obtain ⟨r8, σ9, hc7, hf⟩ := g_pbind hf
  refine g_callVi C (mX1_readNumber l0 D0 K0 h σ6 r2 (11 : Int32) hc7) gX1_readSpan_X1_readNumber rfl rfl rfl ddX1_readNumber ⟨(Nat.le_of_ble_eq_true rfl), (Nat.le_of_ble_eq_true rfl)⟩ rfl (Nat.le_of_ble_eq_true rfl) rfl rfl rfl (Nat.le_of_ble_eq_true rfl) dX1_readSpan_18 ?_
  refine g_istore_n C [1, 2, 0] dX1_readSpan_21 rfl (Nat.le_of_ble_eq_true rfl) rfl ?_
  refine g_iconst C dX1_readSpan_22 ic_0 ?_
  refine g_istore_n C [1, 2, 3, 0] dX1_readSpan_23 rfl (Nat.le_of_ble_eq_true rfl) rfl ?_
  refine g_iload_n C 1 dX1_readSpan_24 rfl rfl ?_
  refine g_istore C [1, 3, 4, 0] dX1_readSpan_25 (Nat.le_of_ble_eq_true rfl) rfl ?_
  refine lX1_readSpan_27_ok σ9 r8 C hret (fun y11 hf => ?_) FU (0 : Int32) r2 hf
  refine g_iload_n C 0 dX1_readSpan_53 rfl rfl ?_
  exact g_retiW hf hret dX1_readSpan_54
/-! X1_readHouseSign -/
theorem in_X1_readHouseSign_X1 : ∀ q ∈ u_ws RX1 TX1 5, q ∈ wsX1_readHouseSign := by decide +kernel
theorem lk_X1_readHouseSign_0 : Cond.fieldLink RX1 87 "EmptyHouse$Reader" "HOUSE_SIGNS" "[B" ∈ wsX1_readHouseSign := by decide +kernel
theorem lk_X1_readHouseSign_1 : Cond.fieldLink RX1 22 "EmptyHouse$Reader" "failed" "Z" ∈ wsX1_readHouseSign := by decide +kernel
theorem lk_X1_readHouseSign_2 : Cond.fieldLink RX1 19 "EmptyHouse$Reader" "place" "I" ∈ wsX1_readHouseSign := by decide +kernel
theorem ddX1_readHouseSign : yX1_readHouseSign.cls = RX1 ∧ yX1_readHouseSign.cls ≠ "java/lang/invoke/MethodHandle" ∧ yX1_readHouseSign.cls ≠ "java/lang/invoke/VarHandle" ∧ (parseMethodDescriptor yX1_readHouseSign.desc).map (fun d => d.parameters.length) = some 0 := by decide +kernel
set_option maxHeartbeats 4000000 in
set_option maxRecDepth 100000 in
theorem lX1_readHouseSign_2_ok {h : Nat → Nat} {X : Cx} {l0 : Launch} {D0 : va_G} {K0 : Nat → ClassId} (σ : pS) {k47 : Option (Int32 × pS)} {r : Int32} {u : pS} (C : Cok wX h X l0 ({ frames := 1, cells := 0, slots := 0, locals := 21 } : Room) D0 K0 cX1_readHouseSign 2 RX1 wsX1_readHouseSign) (hret : ∀ (pc : Nat) (lv' : List (Nat × Value)), decode cX1_readHouseSign pc = .ok (.ireturn, 1) → G wX h X pc lv' [.int r] u) (hk47 :  k47 = some (r, u) → G wX h X 47 [(0, .ref (h 1))] [] σ) : ∀ (F : Nat) (v1 : Int32), lX1_readHouseSign_2 σ k47 F v1 = some (r, u) → G wX h X 2 [(0, .ref (h 1)), (1, .int v1)] [] σ := by
  intro F
  induction F with
  | zero => intro v1 hf; exact absurd hf (by simp [lX1_readHouseSign_2])
  | succ F ih =>
    intro v1 hf
    rw [lX1_readHouseSign_2.eq_2] at hf
    refine g_iload_n C 1 dX1_readHouseSign_2 rfl rfl ?_
    refine g_signs C rfl lk_X1_readHouseSign_0 dX1_readHouseSign_3 (fun t1 ht2 => ?_)
    refine g_signsLen C ht2 dX1_readHouseSign_6 ?_
    refine g_icmp_ge (tgt := 47) hf C dX1_readHouseSign_7 (by decide) (fun hf => ?_) (fun hf => ?_)
    · refine g_lv [0] rfl ?_
      exact hk47 hf
    · refine g_aload_n C 0 dX1_readHouseSign_10 rfl rfl ?_
      refine g_getI C in_X1_readHouseSign_X1 (k := 3) lk_X1_readHouseSign_1 rfl (Nat.le_of_ble_eq_true rfl) rfl (Nat.le_of_ble_eq_true rfl) rfl dX1_readHouseSign_11 ?_
      refine g_if_ne (tgt := 47) hf C dX1_readHouseSign_14 (by decide) (fun hf => ?_) (fun hf => ?_)
      · refine g_lv [0] rfl ?_
        exact hk47 hf
      · refine g_aload_n C 0 dX1_readHouseSign_17 rfl rfl ?_
        refine g_signs C rfl lk_X1_readHouseSign_0 dX1_readHouseSign_18 (fun t3 ht4 => ?_)
        refine g_iload_n C 1 dX1_readHouseSign_21 rfl rfl ?_
        refine g_signsAt hf C ht4 dX1_readHouseSign_22 (fun hf => ?_)
        obtain ⟨r6, hc5, hf⟩ := g_bind hf
        refine g_callVi C (mX1_isNext l0 D0 K0 h σ (hsg (v1).toNatClampNeg) hc5) gX1_readHouseSign_X1_isNext rfl rfl rfl ddX1_isNext ⟨(Nat.le_of_ble_eq_true rfl), (Nat.le_of_ble_eq_true rfl)⟩ rfl (Nat.le_of_ble_eq_true rfl) rfl rfl rfl (Nat.le_of_ble_eq_true rfl) dX1_readHouseSign_23 ?_
        refine g_if_eq (tgt := 41) hf C dX1_readHouseSign_26 (by decide) (fun hf => ?_) (fun hf => ?_)
        · refine g_iinc C 1 [1, 0] dX1_readHouseSign_41 rfl ic_1 (Nat.le_of_ble_eq_true rfl) rfl ?_
          refine g_goto (tgt := 2) C dX1_readHouseSign_44 (by decide) ?_
          exact ih (v1 + (1 : Int32)) hf
        · refine g_aload_n C 0 dX1_readHouseSign_29 rfl rfl ?_
          refine g_dup C dX1_readHouseSign_30 rfl ?_
          refine g_getI C in_X1_readHouseSign_X1 (k := 2) lk_X1_readHouseSign_2 rfl (Nat.le_of_ble_eq_true rfl) rfl (Nat.le_of_ble_eq_true rfl) rfl dX1_readHouseSign_31 ?_
          refine g_iconst C dX1_readHouseSign_34 ic_1 ?_
          refine g_iadd C dX1_readHouseSign_35 ?_
          refine g_putI C in_X1_readHouseSign_X1 (k := 2) lk_X1_readHouseSign_2 rfl (Nat.le_of_ble_eq_true rfl) rfl (Nat.le_of_ble_eq_true rfl) tyX1 tyX1_ok nmX1 rfl rfl rfl rfl dX1_readHouseSign_36 ?_
          refine g_lets hf (fun σ7 hf => ?_)
          refine g_iload_n C 1 dX1_readHouseSign_39 rfl rfl ?_
          exact g_retiW hf hret dX1_readHouseSign_40
set_option maxHeartbeats 4000000 in
set_option maxRecDepth 100000 in
theorem mX1_readHouseSign (l0 : Launch) (D0 : va_G) (K0 : Nat → ClassId) (h : Nat → Nat) (σ : pS)  {r : Int32} {u : pS} (hf : fX1_readHouseSign σ = some (r, u)) : Met l0 yX1_readHouseSign wsX1_readHouseSign ({ frames := 1, cells := 0, slots := 0, locals := 21 } : Room) (va_Pc [.ref (h 1)] (pIn wX D0 K0 h σ)) (va_Qi (fun r' u' => r' = r ∧ u' = u) (pOut wX D0 K0 h) (pA wX h)) 0 0 (pA wX h) := by
  refine p_metI (lv := [(0, .ref (h 1))]) (by decide +kernel) rfl rfl (Nat.le_of_ble_eq_true rfl) rfl (fun X C hret => ?_)
  unfold fX1_readHouseSign at hf
  refine g_iconst C dX1_readHouseSign_0 ic_0 ?_
  refine g_istore_n C [1, 0] dX1_readHouseSign_1 rfl (Nat.le_of_ble_eq_true rfl) rfl ?_
  refine lX1_readHouseSign_2_ok σ C hret (fun hf => ?_) FU (0 : Int32) hf
  refine g_aload_n C 0 dX1_readHouseSign_47 rfl rfl ?_
  refine g_iconst C dX1_readHouseSign_48 ic_1 ?_
  refine g_putI C in_X1_readHouseSign_X1 (k := 3) lk_X1_readHouseSign_1 rfl (Nat.le_of_ble_eq_true rfl) rfl (Nat.le_of_ble_eq_true rfl) tyX1 tyX1_ok nmX1 rfl rfl rfl rfl dX1_readHouseSign_49 ?_
  refine g_lets hf (fun σ8 hf => ?_)
  refine g_iconst C dX1_readHouseSign_52 ic_0 ?_
  exact g_retiW hf hret dX1_readHouseSign_53
/-! X1_readLetter -/
theorem in_X1_readLetter_X1 : ∀ q ∈ u_ws RX1 TX1 5, q ∈ wsX1_readLetter := by decide +kernel
theorem lk_X1_readLetter_0 : Cond.fieldLink RX1 22 "EmptyHouse$Reader" "failed" "Z" ∈ wsX1_readLetter := by decide +kernel
theorem lk_X1_readLetter_1 : Cond.fieldLink RX1 19 "EmptyHouse$Reader" "place" "I" ∈ wsX1_readLetter := by decide +kernel
theorem lk_X1_readLetter_2 : Cond.fieldLink RX1 15 "EmptyHouse$Reader" "size" "I" ∈ wsX1_readLetter := by decide +kernel
theorem lk_X1_readLetter_3 : Cond.fieldLink RX1 9 "EmptyHouse$Reader" "signs" "[B" ∈ wsX1_readLetter := by decide +kernel
theorem lk_X1_readLetter_4 : Cond.fieldLink RX1 29 "EmptyHouse$Reader" "into" "LEmptyHouse$Village;" ∈ wsX1_readLetter := by decide +kernel
theorem ddX1_readLetter : yX1_readLetter.cls = RX1 ∧ yX1_readLetter.cls ≠ "java/lang/invoke/MethodHandle" ∧ yX1_readLetter.cls ≠ "java/lang/invoke/VarHandle" ∧ (parseMethodDescriptor yX1_readLetter.desc).map (fun d => d.parameters.length) = some 1 := by decide +kernel
set_option maxHeartbeats 4000000 in
set_option maxRecDepth 100000 in
theorem mX1_readLetter (l0 : Launch) (D0 : va_G) (K0 : Nat → ClassId) (h : Nat → Nat) (σ : pS) (a1 : Int32) {r : Int32} {u : pS} (hf : fX1_readLetter σ a1 = some (r, u)) : Met l0 yX1_readLetter wsX1_readLetter ({ frames := 1, cells := 0, slots := 0, locals := 21 } : Room) (va_Pc [.ref (h 1), .int a1] (pIn wX D0 K0 h σ)) (va_Qi (fun r' u' => r' = r ∧ u' = u) (pOut wX D0 K0 h) (pA wX h)) 0 0 (pA wX h) := by
  refine p_metI (lv := [(0, .ref (h 1)), (1, .int a1)]) (by decide +kernel) rfl rfl (Nat.le_of_ble_eq_true rfl) rfl (fun X C hret => ?_)
  unfold fX1_readLetter at hf
  refine g_aload_n C 0 dX1_readLetter_0 rfl rfl ?_
  refine g_getI C in_X1_readLetter_X1 (k := 3) lk_X1_readLetter_0 rfl (Nat.le_of_ble_eq_true rfl) rfl (Nat.le_of_ble_eq_true rfl) rfl dX1_readLetter_1 ?_
  refine g_join (P := fun j => j = some (r, u) → G wX h X 59 [(0, .ref (h 1))] [] σ) hf (fun hf => ?_) (fun j1 hj1 hf => ?_)
  · refine g_aload_n C 0 dX1_readLetter_59 rfl rfl ?_
    refine g_iconst C dX1_readLetter_60 ic_1 ?_
    refine g_putI C in_X1_readLetter_X1 (k := 3) lk_X1_readLetter_0 rfl (Nat.le_of_ble_eq_true rfl) rfl (Nat.le_of_ble_eq_true rfl) tyX1 tyX1_ok nmX1 rfl rfl rfl rfl dX1_readLetter_61 ?_
    refine g_lets hf (fun σ2 hf => ?_)
    refine g_iconst C dX1_readLetter_64 ic_0 ?_
    exact g_retiW hf hret dX1_readLetter_65
  · refine g_if_ne (tgt := 59) hf C dX1_readLetter_4 (by decide) (fun hf => ?_) (fun hf => ?_)
    · refine g_lv [0] rfl ?_
      exact hj1 hf
    · refine g_aload_n C 0 dX1_readLetter_7 rfl rfl ?_
      refine g_getI C in_X1_readLetter_X1 (k := 2) lk_X1_readLetter_1 rfl (Nat.le_of_ble_eq_true rfl) rfl (Nat.le_of_ble_eq_true rfl) rfl dX1_readLetter_8 ?_
      refine g_aload_n C 0 dX1_readLetter_11 rfl rfl ?_
      refine g_getI C in_X1_readLetter_X1 (k := 1) lk_X1_readLetter_2 rfl (Nat.le_of_ble_eq_true rfl) rfl (Nat.le_of_ble_eq_true rfl) rfl dX1_readLetter_12 ?_
      refine g_icmp_ge (tgt := 59) hf C dX1_readLetter_15 (by decide) (fun hf => ?_) (fun hf => ?_)
      · refine g_lv [0] rfl ?_
        exact hj1 hf
      · refine g_aload_n C 0 dX1_readLetter_18 rfl rfl ?_
        refine g_getR C in_X1_readLetter_X1 (k := 0) lk_X1_readLetter_3 rfl (Nat.le_of_ble_eq_true rfl) rfl (Nat.le_of_ble_eq_true rfl) rfl dX1_readLetter_19 ?_
        refine g_aload_n C 0 dX1_readLetter_22 rfl rfl ?_
        refine g_getI C in_X1_readLetter_X1 (k := 2) lk_X1_readLetter_1 rfl (Nat.le_of_ble_eq_true rfl) rfl (Nat.le_of_ble_eq_true rfl) rfl dX1_readLetter_23 ?_
        obtain ⟨hg3, hf⟩ := g_guard hf
        obtain ⟨b4, he5, hl6⟩ := isA_spec hg3
        refine g_bald hf C he5 hl6 dX1_readLetter_26 (fun hf => ?_)
        refine g_bipush C dX1_readLetter_27 bp_65 ?_
        refine g_isub C dX1_readLetter_29 ?_
        refine g_leti hf (fun x7 hf => ?_)
        refine g_istore_n C [1, 2, 0] dX1_readLetter_30 rfl (Nat.le_of_ble_eq_true rfl) rfl ?_
        refine g_aload_n C 0 dX1_readLetter_31 rfl rfl ?_
        refine g_getR C in_X1_readLetter_X1 (k := 4) lk_X1_readLetter_4 rfl (Nat.le_of_ble_eq_true rfl) rfl (Nat.le_of_ble_eq_true rfl) rfl dX1_readLetter_32 ?_
        refine g_iload_n C 2 dX1_readLetter_35 rfl rfl ?_
        obtain ⟨hg8, hf⟩ := g_guard hf
        obtain ⟨r10, hc9, hf⟩ := g_bind hf
        refine g_callVi C (mX3_isPerson l0 D0 K0 h σ (pR σ 1 4) x7 hc9) gX1_readLetter_X3_isPerson rfl rfl rfl ddX3_isPerson ⟨(Nat.le_of_ble_eq_true rfl), (Nat.le_of_ble_eq_true rfl)⟩ (shV hg8) (ltV hg8) rfl rfl rfl (Nat.le_of_ble_eq_true rfl) dX1_readLetter_36 ?_
        refine g_if_eq (tgt := 59) hf C dX1_readLetter_39 (by decide) (fun hf => ?_) (fun hf => ?_)
        · refine g_lv [0] rfl ?_
          exact hj1 hf
        · refine g_iload_n C 2 dX1_readLetter_42 rfl rfl ?_
          refine g_iload_n C 1 dX1_readLetter_43 rfl rfl ?_
          refine g_icmp_eq (tgt := 59) hf C dX1_readLetter_44 (by decide) (fun hf => ?_) (fun hf => ?_)
          · refine g_lv [0] rfl ?_
            exact hj1 hf
          · refine g_aload_n C 0 dX1_readLetter_47 rfl rfl ?_
            refine g_dup C dX1_readLetter_48 rfl ?_
            refine g_getI C in_X1_readLetter_X1 (k := 2) lk_X1_readLetter_1 rfl (Nat.le_of_ble_eq_true rfl) rfl (Nat.le_of_ble_eq_true rfl) rfl dX1_readLetter_49 ?_
            refine g_iconst C dX1_readLetter_52 ic_1 ?_
            refine g_iadd C dX1_readLetter_53 ?_
            refine g_putI C in_X1_readLetter_X1 (k := 2) lk_X1_readLetter_1 rfl (Nat.le_of_ble_eq_true rfl) rfl (Nat.le_of_ble_eq_true rfl) tyX1 tyX1_ok nmX1 rfl rfl rfl rfl dX1_readLetter_54 ?_
            refine g_lets hf (fun σ11 hf => ?_)
            refine g_iload_n C 2 dX1_readLetter_57 rfl rfl ?_
            exact g_retiW hf hret dX1_readLetter_58
/-! X1_readPerson -/
theorem in_X1_readPerson_X1 : ∀ q ∈ u_ws RX1 TX1 5, q ∈ wsX1_readPerson := by decide +kernel
theorem in_X1_readPerson_X3 : ∀ q ∈ u_ws RX3 TX3 11, q ∈ wsX1_readPerson := by decide +kernel
theorem lk_X1_readPerson_0 : Cond.fieldLink RX1 29 "EmptyHouse$Reader" "into" "LEmptyHouse$Village;" ∈ wsX1_readPerson := by decide +kernel
theorem lk_X1_readPerson_1 : Cond.fieldLink RX1 52 "EmptyHouse$Village" "people" "I" ∈ wsX1_readPerson := by decide +kernel
theorem lk_X1_readPerson_2 : Cond.fieldLink RX1 19 "EmptyHouse$Reader" "place" "I" ∈ wsX1_readPerson := by decide +kernel
theorem lk_X1_readPerson_3 : Cond.fieldLink RX1 22 "EmptyHouse$Reader" "failed" "Z" ∈ wsX1_readPerson := by decide +kernel
theorem lk_X1_readPerson_4 : Cond.fieldLink RX1 15 "EmptyHouse$Reader" "size" "I" ∈ wsX1_readPerson := by decide +kernel
theorem ddX1_readPerson : yX1_readPerson.cls = RX1 ∧ yX1_readPerson.cls ≠ "java/lang/invoke/MethodHandle" ∧ yX1_readPerson.cls ≠ "java/lang/invoke/VarHandle" ∧ (parseMethodDescriptor yX1_readPerson.desc).map (fun d => d.parameters.length) = some 0 := by decide +kernel
set_option maxHeartbeats 4000000 in
set_option maxRecDepth 100000 in
theorem lX1_readPerson_65_ok {h : Nat → Nat} {X : Cx} {l0 : Launch} {D0 : va_G} {K0 : Nat → ClassId} (p1 : Int32) (p2 : Int32) {k113 : Int32 → pS → Option (Unit × pS)} {r : Unit} {u : pS} (C : Cok wX h X l0 ({ frames := 4, cells := 0, slots := 0, locals := 88 } : Room) D0 K0 cX1_readPerson 5 RX1 wsX1_readPerson) (hret : ∀ (pc : Nat) (lv' : List (Nat × Value)), decode cX1_readPerson pc = .ok (.return_, 1) → G wX h X pc lv' [] u) (hk113 : ∀ (z3 : Int32) (σ : pS), k113 z3 σ = some (r, u) → G wX h X 113 [(0, .ref (h 1)), (1, .int p1), (2, .int p2), (3, .int z3)] [] σ) : ∀ (F : Nat) (v3 : Int32) (v4 : Int32) (σ : pS), lX1_readPerson_65 p1 p2 k113 F v3 v4 σ = some (r, u) → G wX h X 65 [(0, .ref (h 1)), (1, .int p1), (2, .int p2), (3, .int v3), (4, .int v4)] [] σ := by
  intro F
  induction F with
  | zero => intro v3 v4 σ hf; exact absurd hf (by simp [lX1_readPerson_65])
  | succ F ih =>
    intro v3 v4 σ hf
    rw [lX1_readPerson_65.eq_2] at hf
    refine g_iload C 4 dX1_readPerson_65 rfl ?_
    refine g_aload_n C 0 dX1_readPerson_67 rfl rfl ?_
    refine g_getI C in_X1_readPerson_X1 (k := 1) lk_X1_readPerson_4 rfl (Nat.le_of_ble_eq_true rfl) rfl (Nat.le_of_ble_eq_true rfl) rfl dX1_readPerson_68 ?_
    refine g_icmp_ge (tgt := 113) hf C dX1_readPerson_71 (by decide) (fun hf => ?_) (fun hf => ?_)
    · refine g_lv [0, 1, 2, 3] rfl ?_
      exact hk113 v3 σ hf
    · refine g_aload_n C 0 dX1_readPerson_74 rfl rfl ?_
      refine g_getI C in_X1_readPerson_X1 (k := 3) lk_X1_readPerson_3 rfl (Nat.le_of_ble_eq_true rfl) rfl (Nat.le_of_ble_eq_true rfl) rfl dX1_readPerson_75 ?_
      refine g_if_ne (tgt := 113) hf C dX1_readPerson_78 (by decide) (fun hf => ?_) (fun hf => ?_)
      · refine g_lv [0, 1, 2, 3] rfl ?_
        exact hk113 v3 σ hf
      · refine g_aload_n C 0 dX1_readPerson_81 rfl rfl ?_
        refine g_bipush C dX1_readPerson_82 bp_97 ?_
        obtain ⟨r10, hc9, hf⟩ := g_bind hf
        refine g_callVi C (mX1_isNext l0 D0 K0 h σ (97 : Int32) hc9) gX1_readPerson_X1_isNext rfl rfl rfl ddX1_isNext ⟨(Nat.le_of_ble_eq_true rfl), (Nat.le_of_ble_eq_true rfl)⟩ rfl (Nat.le_of_ble_eq_true rfl) rfl rfl rfl (Nat.le_of_ble_eq_true rfl) dX1_readPerson_84 ?_
        refine g_if_eq (tgt := 113) hf C dX1_readPerson_87 (by decide) (fun hf => ?_) (fun hf => ?_)
        · refine g_lv [0, 1, 2, 3] rfl ?_
          exact hk113 v3 σ hf
        · refine g_aload_n C 0 dX1_readPerson_90 rfl rfl ?_
          refine g_dup C dX1_readPerson_91 rfl ?_
          refine g_getI C in_X1_readPerson_X1 (k := 2) lk_X1_readPerson_2 rfl (Nat.le_of_ble_eq_true rfl) rfl (Nat.le_of_ble_eq_true rfl) rfl dX1_readPerson_92 ?_
          refine g_iconst C dX1_readPerson_95 ic_1 ?_
          refine g_iadd C dX1_readPerson_96 ?_
          refine g_putI C in_X1_readPerson_X1 (k := 2) lk_X1_readPerson_2 rfl (Nat.le_of_ble_eq_true rfl) rfl (Nat.le_of_ble_eq_true rfl) tyX1 tyX1_ok nmX1 rfl rfl rfl rfl dX1_readPerson_97 ?_
          refine g_lets hf (fun σ11 hf => ?_)
          refine g_iload_n C 3 dX1_readPerson_100 rfl rfl ?_
          refine g_aload_n C 0 dX1_readPerson_101 rfl rfl ?_
          obtain ⟨r13, σ14, hc12, hf⟩ := g_pbind hf
          refine g_callVi C (mX1_readSpan l0 D0 K0 h σ11 hc12) gX1_readPerson_X1_readSpan rfl rfl rfl ddX1_readSpan ⟨(Nat.le_of_ble_eq_true rfl), (Nat.le_of_ble_eq_true rfl)⟩ rfl (Nat.le_of_ble_eq_true rfl) rfl rfl rfl (Nat.le_of_ble_eq_true rfl) dX1_readPerson_102 ?_
          refine g_ior C dX1_readPerson_105 ?_
          refine g_leti hf (fun x15 hf => ?_)
          refine g_istore_n C [1, 2, 3, 0, 4] dX1_readPerson_106 rfl (Nat.le_of_ble_eq_true rfl) rfl ?_
          refine g_iinc C 4 [1, 2, 3, 4, 0] dX1_readPerson_107 rfl ic_1 (Nat.le_of_ble_eq_true rfl) rfl ?_
          refine g_goto (tgt := 65) C dX1_readPerson_110 (by decide) ?_
          exact ih x15 (v4 + (1 : Int32)) σ14 hf
set_option maxHeartbeats 4000000 in
set_option maxRecDepth 100000 in
theorem mX1_readPerson (l0 : Launch) (D0 : va_G) (K0 : Nat → ClassId) (h : Nat → Nat) (σ : pS)  {r : Unit} {u : pS} (hf : fX1_readPerson σ = some (r, u)) : Met l0 yX1_readPerson wsX1_readPerson ({ frames := 4, cells := 0, slots := 0, locals := 88 } : Room) (va_Pc [.ref (h 1)] (pIn wX D0 K0 h σ)) (va_Qv (fun u' => u' = u) (pOut wX D0 K0 h) (pA wX h)) 0 0 (pA wX h) := by
  refine p_metV (lv := [(0, .ref (h 1))]) (by decide +kernel) rfl rfl (Nat.le_of_ble_eq_true rfl) rfl (fun X C hret => ?_)
  unfold fX1_readPerson at hf
  refine g_aload_n C 0 dX1_readPerson_0 rfl rfl ?_
  refine g_getR C in_X1_readPerson_X1 (k := 4) lk_X1_readPerson_0 rfl (Nat.le_of_ble_eq_true rfl) rfl (Nat.le_of_ble_eq_true rfl) rfl dX1_readPerson_1 ?_
  obtain ⟨hg1, hf⟩ := g_guard hf
  refine g_getI C in_X1_readPerson_X3 (k := 0) lk_X1_readPerson_1 rfl (Nat.le_of_ble_eq_true rfl) (shV hg1) (ltV hg1) rfl dX1_readPerson_4 ?_
  refine g_bipush C dX1_readPerson_7 bp_6 ?_
  refine g_icmp_lt (tgt := 18) hf C dX1_readPerson_9 (by decide) (fun hf => ?_) (fun hf => ?_)
  · refine g_aload_n C 0 dX1_readPerson_18 rfl rfl ?_
    refine g_dup C dX1_readPerson_19 rfl ?_
    refine g_getI C in_X1_readPerson_X1 (k := 2) lk_X1_readPerson_2 rfl (Nat.le_of_ble_eq_true rfl) rfl (Nat.le_of_ble_eq_true rfl) rfl dX1_readPerson_20 ?_
    refine g_iconst C dX1_readPerson_23 ic_1 ?_
    refine g_iadd C dX1_readPerson_24 ?_
    refine g_putI C in_X1_readPerson_X1 (k := 2) lk_X1_readPerson_2 rfl (Nat.le_of_ble_eq_true rfl) rfl (Nat.le_of_ble_eq_true rfl) tyX1 tyX1_ok nmX1 rfl rfl rfl rfl dX1_readPerson_25 ?_
    refine g_lets hf (fun σ2 hf => ?_)
    refine g_aload_n C 0 dX1_readPerson_28 rfl rfl ?_
    obtain ⟨r4, σ5, hc3, hf⟩ := g_pbind hf
    refine g_callVi C (mX1_readHouseSign l0 D0 K0 h σ2 hc3) gX1_readPerson_X1_readHouseSign rfl rfl rfl ddX1_readHouseSign ⟨(Nat.le_of_ble_eq_true rfl), (Nat.le_of_ble_eq_true rfl)⟩ rfl (Nat.le_of_ble_eq_true rfl) rfl rfl rfl (Nat.le_of_ble_eq_true rfl) dX1_readPerson_29 ?_
    refine g_istore_n C [1, 0] dX1_readPerson_32 rfl (Nat.le_of_ble_eq_true rfl) rfl ?_
    refine g_bipush C dX1_readPerson_33 bp_m9 ?_
    refine g_istore_n C [1, 2, 0] dX1_readPerson_35 rfl (Nat.le_of_ble_eq_true rfl) rfl ?_
    refine g_aload_n C 0 dX1_readPerson_36 rfl rfl ?_
    refine g_getI C in_X1_readPerson_X1 (k := 3) lk_X1_readPerson_3 rfl (Nat.le_of_ble_eq_true rfl) rfl (Nat.le_of_ble_eq_true rfl) rfl dX1_readPerson_37 ?_
    refine g_join (P := fun j => ∀ (y7 : Int32) (σ8 : pS), j y7 σ8 = some (r, u) → G wX h X 60 [(0, .ref (h 1)), (1, .int r4), (2, .int y7)] [] σ8) hf (fun y7 σ8 hf => ?_) (fun j6 hj6 hf => ?_)
    · refine g_iconst C dX1_readPerson_60 ic_0 ?_
      refine g_istore_n C [1, 2, 3, 0] dX1_readPerson_61 rfl (Nat.le_of_ble_eq_true rfl) rfl ?_
      refine g_iconst C dX1_readPerson_62 ic_0 ?_
      refine g_istore C [1, 2, 3, 4, 0] dX1_readPerson_63 (Nat.le_of_ble_eq_true rfl) rfl ?_
      refine lX1_readPerson_65_ok r4 y7 C hret (fun y16 σ17 hf => ?_) FU (0 : Int32) (0 : Int32) σ8 hf
      refine g_aload_n C 0 dX1_readPerson_113 rfl rfl ?_
      refine g_getI C in_X1_readPerson_X1 (k := 3) lk_X1_readPerson_3 rfl (Nat.le_of_ble_eq_true rfl) rfl (Nat.le_of_ble_eq_true rfl) rfl dX1_readPerson_114 ?_
      refine g_if_ne (tgt := 130) hf C dX1_readPerson_117 (by decide) (fun hf => ?_) (fun hf => ?_)
      · exact g_retvW hf hret dX1_readPerson_130
      · refine g_aload_n C 0 dX1_readPerson_120 rfl rfl ?_
        refine g_getR C in_X1_readPerson_X1 (k := 4) lk_X1_readPerson_0 rfl (Nat.le_of_ble_eq_true rfl) rfl (Nat.le_of_ble_eq_true rfl) rfl dX1_readPerson_121 ?_
        refine g_iload_n C 1 dX1_readPerson_124 rfl rfl ?_
        refine g_iload_n C 2 dX1_readPerson_125 rfl rfl ?_
        refine g_iload_n C 3 dX1_readPerson_126 rfl rfl ?_
        obtain ⟨hg18, hf⟩ := g_guard hf
        obtain ⟨r20, σ21, hc19, hf⟩ := g_pbind hf
        refine g_callVv C (mX3_addPerson l0 D0 K0 h σ17 (pR σ17 1 4) r4 y7 y16 hc19) gX1_readPerson_X3_addPerson rfl rfl rfl ddX3_addPerson ⟨(Nat.le_of_ble_eq_true rfl), (Nat.le_of_ble_eq_true rfl)⟩ (shV hg18) (ltV hg18) rfl rfl rfl (Nat.le_of_ble_eq_true rfl) dX1_readPerson_127 ?_
        exact g_retvW hf hret dX1_readPerson_130
    · refine g_if_ne (tgt := 60) hf C dX1_readPerson_40 (by decide) (fun hf => ?_) (fun hf => ?_)
      · exact hj6 (-9 : Int32) σ5 hf
      · refine g_iload_n C 1 dX1_readPerson_43 rfl rfl ?_
        refine g_iconst C dX1_readPerson_44 ic_3 ?_
        refine g_join (P := fun j => j = some (r, u) → G wX h X 53 [(0, .ref (h 1)), (1, .int r4)] [] σ5) hf (fun hf => ?_) (fun j22 hj22 hf => ?_)
        · refine g_aload_n C 0 dX1_readPerson_53 rfl rfl ?_
          refine g_bipush C dX1_readPerson_54 bp_m9 ?_
          obtain ⟨r24, σ25, hc23, hf⟩ := g_pbind hf
          refine g_callVi C (mX1_readLetter l0 D0 K0 h σ5 (-9 : Int32) hc23) gX1_readPerson_X1_readLetter rfl rfl rfl ddX1_readLetter ⟨(Nat.le_of_ble_eq_true rfl), (Nat.le_of_ble_eq_true rfl)⟩ rfl (Nat.le_of_ble_eq_true rfl) rfl rfl rfl (Nat.le_of_ble_eq_true rfl) dX1_readPerson_56 ?_
          refine g_istore_n C [1, 2, 0] dX1_readPerson_59 rfl (Nat.le_of_ble_eq_true rfl) rfl ?_
          exact hj6 r24 σ25 hf
        · refine g_icmp_eq (tgt := 53) hf C dX1_readPerson_45 (by decide) (fun hf => ?_) (fun hf => ?_)
          · refine g_lv [0, 1] rfl ?_
            exact hj22 hf
          · refine g_iload_n C 1 dX1_readPerson_48 rfl rfl ?_
            refine g_iconst C dX1_readPerson_49 ic_4 ?_
            refine g_icmp_ne (tgt := 60) hf C dX1_readPerson_50 (by decide) (fun hf => ?_) (fun hf => ?_)
            · exact hj6 (-9 : Int32) σ5 hf
            · refine g_lv [0, 1] rfl ?_
              exact hj22 hf
  · refine g_aload_n C 0 dX1_readPerson_12 rfl rfl ?_
    refine g_iconst C dX1_readPerson_13 ic_1 ?_
    refine g_putI C in_X1_readPerson_X1 (k := 3) lk_X1_readPerson_3 rfl (Nat.le_of_ble_eq_true rfl) rfl (Nat.le_of_ble_eq_true rfl) tyX1 tyX1_ok nmX1 rfl rfl rfl rfl dX1_readPerson_14 ?_
    refine g_lets hf (fun σ26 hf => ?_)
    exact g_retvW hf hret dX1_readPerson_17
/-! X1_readDebt -/
theorem in_X1_readDebt_X1 : ∀ q ∈ u_ws RX1 TX1 5, q ∈ wsX1_readDebt := by decide +kernel
theorem in_X1_readDebt_X3 : ∀ q ∈ u_ws RX3 TX3 11, q ∈ wsX1_readDebt := by decide +kernel
theorem lk_X1_readDebt_0 : Cond.fieldLink RX1 29 "EmptyHouse$Reader" "into" "LEmptyHouse$Village;" ∈ wsX1_readDebt := by decide +kernel
theorem lk_X1_readDebt_1 : Cond.fieldLink RX1 77 "EmptyHouse$Village" "debts" "I" ∈ wsX1_readDebt := by decide +kernel
theorem lk_X1_readDebt_2 : Cond.fieldLink RX1 19 "EmptyHouse$Reader" "place" "I" ∈ wsX1_readDebt := by decide +kernel
theorem lk_X1_readDebt_3 : Cond.fieldLink RX1 22 "EmptyHouse$Reader" "failed" "Z" ∈ wsX1_readDebt := by decide +kernel
theorem ddX1_readDebt : yX1_readDebt.cls = RX1 ∧ yX1_readDebt.cls ≠ "java/lang/invoke/MethodHandle" ∧ yX1_readDebt.cls ≠ "java/lang/invoke/VarHandle" ∧ (parseMethodDescriptor yX1_readDebt.desc).map (fun d => d.parameters.length) = some 0 := by decide +kernel
set_option maxHeartbeats 4000000 in
set_option maxRecDepth 100000 in
theorem mX1_readDebt (l0 : Launch) (D0 : va_G) (K0 : Nat → ClassId) (h : Nat → Nat) (σ : pS)  {r : Unit} {u : pS} (hf : fX1_readDebt σ = some (r, u)) : Met l0 yX1_readDebt wsX1_readDebt ({ frames := 3, cells := 0, slots := 0, locals := 64 } : Room) (va_Pc [.ref (h 1)] (pIn wX D0 K0 h σ)) (va_Qv (fun u' => u' = u) (pOut wX D0 K0 h) (pA wX h)) 0 0 (pA wX h) := by
  refine p_metV (lv := [(0, .ref (h 1))]) (by decide +kernel) rfl rfl (Nat.le_of_ble_eq_true rfl) rfl (fun X C hret => ?_)
  unfold fX1_readDebt at hf
  refine g_aload_n C 0 dX1_readDebt_0 rfl rfl ?_
  refine g_getR C in_X1_readDebt_X1 (k := 4) lk_X1_readDebt_0 rfl (Nat.le_of_ble_eq_true rfl) rfl (Nat.le_of_ble_eq_true rfl) rfl dX1_readDebt_1 ?_
  obtain ⟨hg1, hf⟩ := g_guard hf
  refine g_getI C in_X1_readDebt_X3 (k := 1) lk_X1_readDebt_1 rfl (Nat.le_of_ble_eq_true rfl) (shV hg1) (ltV hg1) rfl dX1_readDebt_4 ?_
  refine g_bipush C dX1_readDebt_7 bp_8 ?_
  refine g_icmp_lt (tgt := 18) hf C dX1_readDebt_9 (by decide) (fun hf => ?_) (fun hf => ?_)
  · refine g_aload_n C 0 dX1_readDebt_18 rfl rfl ?_
    refine g_dup C dX1_readDebt_19 rfl ?_
    refine g_getI C in_X1_readDebt_X1 (k := 2) lk_X1_readDebt_2 rfl (Nat.le_of_ble_eq_true rfl) rfl (Nat.le_of_ble_eq_true rfl) rfl dX1_readDebt_20 ?_
    refine g_iconst C dX1_readDebt_23 ic_1 ?_
    refine g_iadd C dX1_readDebt_24 ?_
    refine g_putI C in_X1_readDebt_X1 (k := 2) lk_X1_readDebt_2 rfl (Nat.le_of_ble_eq_true rfl) rfl (Nat.le_of_ble_eq_true rfl) tyX1 tyX1_ok nmX1 rfl rfl rfl rfl dX1_readDebt_25 ?_
    refine g_lets hf (fun σ2 hf => ?_)
    refine g_aload_n C 0 dX1_readDebt_28 rfl rfl ?_
    refine g_bipush C dX1_readDebt_29 bp_m9 ?_
    obtain ⟨r4, σ5, hc3, hf⟩ := g_pbind hf
    refine g_callVi C (mX1_readLetter l0 D0 K0 h σ2 (-9 : Int32) hc3) gX1_readDebt_X1_readLetter rfl rfl rfl ddX1_readLetter ⟨(Nat.le_of_ble_eq_true rfl), (Nat.le_of_ble_eq_true rfl)⟩ rfl (Nat.le_of_ble_eq_true rfl) rfl rfl rfl (Nat.le_of_ble_eq_true rfl) dX1_readDebt_31 ?_
    refine g_istore_n C [1, 0] dX1_readDebt_34 rfl (Nat.le_of_ble_eq_true rfl) rfl ?_
    refine g_aload_n C 0 dX1_readDebt_35 rfl rfl ?_
    refine g_iload_n C 1 dX1_readDebt_36 rfl rfl ?_
    obtain ⟨r7, σ8, hc6, hf⟩ := g_pbind hf
    refine g_callVi C (mX1_readLetter l0 D0 K0 h σ5 r4 hc6) gX1_readDebt_X1_readLetter rfl rfl rfl ddX1_readLetter ⟨(Nat.le_of_ble_eq_true rfl), (Nat.le_of_ble_eq_true rfl)⟩ rfl (Nat.le_of_ble_eq_true rfl) rfl rfl rfl (Nat.le_of_ble_eq_true rfl) dX1_readDebt_37 ?_
    refine g_istore_n C [1, 2, 0] dX1_readDebt_40 rfl (Nat.le_of_ble_eq_true rfl) rfl ?_
    refine g_aload_n C 0 dX1_readDebt_41 rfl rfl ?_
    refine g_bipush C dX1_readDebt_42 bp_58 ?_
    obtain ⟨r10, σ11, hc9, hf⟩ := g_pbind hf
    refine g_callVv C (mX1_readSign l0 D0 K0 h σ8 (58 : Int32) hc9) gX1_readDebt_X1_readSign rfl rfl rfl ddX1_readSign ⟨(Nat.le_of_ble_eq_true rfl), (Nat.le_of_ble_eq_true rfl)⟩ rfl (Nat.le_of_ble_eq_true rfl) rfl rfl rfl (Nat.le_of_ble_eq_true rfl) dX1_readDebt_44 ?_
    refine g_aload_n C 0 dX1_readDebt_47 rfl rfl ?_
    refine g_iconst C dX1_readDebt_48 ic_1 ?_
    refine g_bipush C dX1_readDebt_49 bp_99 ?_
    obtain ⟨r13, σ14, hc12, hf⟩ := g_pbind hf
    refine g_callVi C (mX1_readNumber l0 D0 K0 h σ11 (1 : Int32) (99 : Int32) hc12) gX1_readDebt_X1_readNumber rfl rfl rfl ddX1_readNumber ⟨(Nat.le_of_ble_eq_true rfl), (Nat.le_of_ble_eq_true rfl)⟩ rfl (Nat.le_of_ble_eq_true rfl) rfl rfl rfl (Nat.le_of_ble_eq_true rfl) dX1_readDebt_51 ?_
    refine g_istore_n C [1, 2, 3, 0] dX1_readDebt_54 rfl (Nat.le_of_ble_eq_true rfl) rfl ?_
    refine g_aload_n C 0 dX1_readDebt_55 rfl rfl ?_
    refine g_bipush C dX1_readDebt_56 bp_58 ?_
    obtain ⟨r16, σ17, hc15, hf⟩ := g_pbind hf
    refine g_callVv C (mX1_readSign l0 D0 K0 h σ14 (58 : Int32) hc15) gX1_readDebt_X1_readSign rfl rfl rfl ddX1_readSign ⟨(Nat.le_of_ble_eq_true rfl), (Nat.le_of_ble_eq_true rfl)⟩ rfl (Nat.le_of_ble_eq_true rfl) rfl rfl rfl (Nat.le_of_ble_eq_true rfl) dX1_readDebt_58 ?_
    refine g_aload_n C 0 dX1_readDebt_61 rfl rfl ?_
    obtain ⟨r19, σ20, hc18, hf⟩ := g_pbind hf
    refine g_callVi C (mX1_readFigure l0 D0 K0 h σ17 hc18) gX1_readDebt_X1_readFigure rfl rfl rfl ddX1_readFigure ⟨(Nat.le_of_ble_eq_true rfl), (Nat.le_of_ble_eq_true rfl)⟩ rfl (Nat.le_of_ble_eq_true rfl) rfl rfl rfl (Nat.le_of_ble_eq_true rfl) dX1_readDebt_62 ?_
    refine g_istore C [1, 2, 3, 4, 0] dX1_readDebt_65 (Nat.le_of_ble_eq_true rfl) rfl ?_
    refine g_aload_n C 0 dX1_readDebt_67 rfl rfl ?_
    refine g_getI C in_X1_readDebt_X1 (k := 3) lk_X1_readDebt_3 rfl (Nat.le_of_ble_eq_true rfl) rfl (Nat.le_of_ble_eq_true rfl) rfl dX1_readDebt_68 ?_
    refine g_if_ne (tgt := 86) hf C dX1_readDebt_71 (by decide) (fun hf => ?_) (fun hf => ?_)
    · exact g_retvW hf hret dX1_readDebt_86
    · refine g_aload_n C 0 dX1_readDebt_74 rfl rfl ?_
      refine g_getR C in_X1_readDebt_X1 (k := 4) lk_X1_readDebt_0 rfl (Nat.le_of_ble_eq_true rfl) rfl (Nat.le_of_ble_eq_true rfl) rfl dX1_readDebt_75 ?_
      refine g_iload_n C 1 dX1_readDebt_78 rfl rfl ?_
      refine g_iload_n C 2 dX1_readDebt_79 rfl rfl ?_
      refine g_iload_n C 3 dX1_readDebt_80 rfl rfl ?_
      refine g_iload C 4 dX1_readDebt_81 rfl ?_
      obtain ⟨hg21, hf⟩ := g_guard hf
      obtain ⟨r23, σ24, hc22, hf⟩ := g_pbind hf
      refine g_callVv C (mX3_addDebt l0 D0 K0 h σ20 (pR σ20 1 4) r4 r7 r13 r19 hc22) gX1_readDebt_X3_addDebt rfl rfl rfl ddX3_addDebt ⟨(Nat.le_of_ble_eq_true rfl), (Nat.le_of_ble_eq_true rfl)⟩ (shV hg21) (ltV hg21) rfl rfl rfl (Nat.le_of_ble_eq_true rfl) dX1_readDebt_83 ?_
      exact g_retvW hf hret dX1_readDebt_86
  · refine g_aload_n C 0 dX1_readDebt_12 rfl rfl ?_
    refine g_iconst C dX1_readDebt_13 ic_1 ?_
    refine g_putI C in_X1_readDebt_X1 (k := 3) lk_X1_readDebt_3 rfl (Nat.le_of_ble_eq_true rfl) rfl (Nat.le_of_ble_eq_true rfl) tyX1 tyX1_ok nmX1 rfl rfl rfl rfl dX1_readDebt_14 ?_
    refine g_lets hf (fun σ25 hf => ?_)
    exact g_retvW hf hret dX1_readDebt_17
/-! X1_read -/
theorem in_X1_read_X1 : ∀ q ∈ u_ws RX1 TX1 5, q ∈ wsX1_read := by decide +kernel
theorem lk_X1_read_0 : Cond.fieldLink RX1 9 "EmptyHouse$Reader" "signs" "[B" ∈ wsX1_read := by decide +kernel
theorem lk_X1_read_1 : Cond.methodLink RX1 33 Lib.Math.min.name ∈ wsX1_read := by decide +kernel
theorem lk_X1_read_2 : Cond.static Lib.Math.min.name ∈ wsX1_read := by decide +kernel
theorem lk_X1_read_3 : Cond.initialized "java/lang/Math" ∈ wsX1_read := by decide +kernel
theorem lk_X1_read_4 : Cond.code Lib.Math.min.name Lib.Math.min.code 2 (some .int) ∈ wsX1_read := by decide +kernel
theorem lk_X1_read_5 : Cond.fieldLink RX1 15 "EmptyHouse$Reader" "size" "I" ∈ wsX1_read := by decide +kernel
theorem lk_X1_read_6 : Cond.fieldLink RX1 19 "EmptyHouse$Reader" "place" "I" ∈ wsX1_read := by decide +kernel
theorem lk_X1_read_7 : Cond.fieldLink RX1 22 "EmptyHouse$Reader" "failed" "Z" ∈ wsX1_read := by decide +kernel
theorem lk_X1_read_8 : Cond.fieldLink RX1 29 "EmptyHouse$Reader" "into" "LEmptyHouse$Village;" ∈ wsX1_read := by decide +kernel
theorem ddX1_read : yX1_read.cls = RX1 ∧ yX1_read.cls ≠ "java/lang/invoke/MethodHandle" ∧ yX1_read.cls ≠ "java/lang/invoke/VarHandle" ∧ (parseMethodDescriptor yX1_read.desc).map (fun d => d.parameters.length) = some 2 := by decide +kernel
set_option maxHeartbeats 4000000 in
set_option maxRecDepth 100000 in
theorem lX1_read_34_ok {h : Nat → Nat} {X : Cx} {l0 : Launch} {D0 : va_G} {K0 : Nat → ClassId} {k125 : pS → Option (Int32 × pS)} {r : Int32} {u : pS} (C : Cok wX h X l0 ({ frames := 5, cells := 0, slots := 0, locals := 112 } : Room) D0 K0 cX1_read 4 RX1 wsX1_read) (hret : ∀ (pc : Nat) (lv' : List (Nat × Value)), decode cX1_read pc = .ok (.ireturn, 1) → G wX h X pc lv' [.int r] u) (hk125 : ∀  (σ : pS), k125 σ = some (r, u) → G wX h X 125 [(0, .ref (h 1))] [] σ) : ∀ (F : Nat) (v3 : Int32) (σ : pS), lX1_read_34 k125 F v3 σ = some (r, u) → G wX h X 34 [(0, .ref (h 1)), (3, .int v3)] [] σ := by
  intro F
  induction F with
  | zero => intro v3 σ hf; exact absurd hf (by simp [lX1_read_34])
  | succ F ih =>
    intro v3 σ hf
    rw [lX1_read_34.eq_2] at hf
    refine g_iload_n C 1 dX1_read_34 rfl rfl ?_
    refine g_aload_n C 0 dX1_read_35 rfl rfl ?_
    refine g_getI C in_X1_read_X1 (k := 1) lk_X1_read_5 rfl (Nat.le_of_ble_eq_true rfl) rfl (Nat.le_of_ble_eq_true rfl) rfl dX1_read_36 ?_
    refine g_icmp_ge (tgt := 125) hf C dX1_read_39 (by decide) (fun hf => ?_) (fun hf => ?_)
    · refine g_lv [0] rfl ?_
      exact hk125 σ hf
    · refine g_aload_n C 0 dX1_read_42 rfl rfl ?_
      refine g_getI C in_X1_read_X1 (k := 2) lk_X1_read_6 rfl (Nat.le_of_ble_eq_true rfl) rfl (Nat.le_of_ble_eq_true rfl) rfl dX1_read_43 ?_
      refine g_aload_n C 0 dX1_read_46 rfl rfl ?_
      refine g_getI C in_X1_read_X1 (k := 1) lk_X1_read_5 rfl (Nat.le_of_ble_eq_true rfl) rfl (Nat.le_of_ble_eq_true rfl) rfl dX1_read_47 ?_
      refine g_icmp_ge (tgt := 125) hf C dX1_read_50 (by decide) (fun hf => ?_) (fun hf => ?_)
      · refine g_lv [0] rfl ?_
        exact hk125 σ hf
      · refine g_aload_n C 0 dX1_read_53 rfl rfl ?_
        refine g_getI C in_X1_read_X1 (k := 3) lk_X1_read_7 rfl (Nat.le_of_ble_eq_true rfl) rfl (Nat.le_of_ble_eq_true rfl) rfl dX1_read_54 ?_
        refine g_if_ne (tgt := 125) hf C dX1_read_57 (by decide) (fun hf => ?_) (fun hf => ?_)
        · refine g_lv [0] rfl ?_
          exact hk125 σ hf
        · refine g_aload_n C 0 dX1_read_60 rfl rfl ?_
          refine g_bipush C dX1_read_61 bp_32 ?_
          obtain ⟨r15, hc14, hf⟩ := g_bind hf
          refine g_callVi C (mX1_isNext l0 D0 K0 h σ (32 : Int32) hc14) gX1_read_X1_isNext rfl rfl rfl ddX1_isNext ⟨(Nat.le_of_ble_eq_true rfl), (Nat.le_of_ble_eq_true rfl)⟩ rfl (Nat.le_of_ble_eq_true rfl) rfl rfl rfl (Nat.le_of_ble_eq_true rfl) dX1_read_63 ?_
          refine g_if_eq (tgt := 82) hf C dX1_read_66 (by decide) (fun hf => ?_) (fun hf => ?_)
          · refine g_aload_n C 0 dX1_read_82 rfl rfl ?_
            refine g_bipush C dX1_read_83 bp_112 ?_
            obtain ⟨r17, hc16, hf⟩ := g_bind hf
            refine g_callVi C (mX1_isNext l0 D0 K0 h σ (112 : Int32) hc16) gX1_read_X1_isNext rfl rfl rfl ddX1_isNext ⟨(Nat.le_of_ble_eq_true rfl), (Nat.le_of_ble_eq_true rfl)⟩ rfl (Nat.le_of_ble_eq_true rfl) rfl rfl rfl (Nat.le_of_ble_eq_true rfl) dX1_read_85 ?_
            refine g_if_eq (tgt := 98) hf C dX1_read_88 (by decide) (fun hf => ?_) (fun hf => ?_)
            · refine g_aload_n C 0 dX1_read_98 rfl rfl ?_
              refine g_bipush C dX1_read_99 bp_100 ?_
              obtain ⟨r19, hc18, hf⟩ := g_bind hf
              refine g_callVi C (mX1_isNext l0 D0 K0 h σ (100 : Int32) hc18) gX1_read_X1_isNext rfl rfl rfl ddX1_isNext ⟨(Nat.le_of_ble_eq_true rfl), (Nat.le_of_ble_eq_true rfl)⟩ rfl (Nat.le_of_ble_eq_true rfl) rfl rfl rfl (Nat.le_of_ble_eq_true rfl) dX1_read_101 ?_
              refine g_if_eq (tgt := 114) hf C dX1_read_104 (by decide) (fun hf => ?_) (fun hf => ?_)
              · refine g_aload_n C 0 dX1_read_114 rfl rfl ?_
                refine g_iconst C dX1_read_115 ic_1 ?_
                refine g_putI C in_X1_read_X1 (k := 3) lk_X1_read_7 rfl (Nat.le_of_ble_eq_true rfl) rfl (Nat.le_of_ble_eq_true rfl) tyX1 tyX1_ok nmX1 rfl rfl rfl rfl dX1_read_116 ?_
                refine g_lets hf (fun σ20 hf => ?_)
                refine g_iinc C 1 [1, 0] dX1_read_119 rfl ic_1 (Nat.le_of_ble_eq_true rfl) rfl ?_
                refine g_goto (tgt := 34) C dX1_read_122 (by decide) ?_
                exact ih (v3 + (1 : Int32)) σ20 hf
              · refine g_aload_n C 0 dX1_read_107 rfl rfl ?_
                obtain ⟨r22, σ23, hc21, hf⟩ := g_pbind hf
                refine g_callVv C (mX1_readDebt l0 D0 K0 h σ hc21) gX1_read_X1_readDebt rfl rfl rfl ddX1_readDebt ⟨(Nat.le_of_ble_eq_true rfl), (Nat.le_of_ble_eq_true rfl)⟩ rfl (Nat.le_of_ble_eq_true rfl) rfl rfl rfl (Nat.le_of_ble_eq_true rfl) dX1_read_108 ?_
                refine g_goto (tgt := 119) C dX1_read_111 (by decide) ?_
                refine g_iinc C 1 [1, 0] dX1_read_119 rfl ic_1 (Nat.le_of_ble_eq_true rfl) rfl ?_
                refine g_goto (tgt := 34) C dX1_read_122 (by decide) ?_
                exact ih (v3 + (1 : Int32)) σ23 hf
            · refine g_aload_n C 0 dX1_read_91 rfl rfl ?_
              obtain ⟨r25, σ26, hc24, hf⟩ := g_pbind hf
              refine g_callVv C (mX1_readPerson l0 D0 K0 h σ hc24) gX1_read_X1_readPerson rfl rfl rfl ddX1_readPerson ⟨(Nat.le_of_ble_eq_true rfl), (Nat.le_of_ble_eq_true rfl)⟩ rfl (Nat.le_of_ble_eq_true rfl) rfl rfl rfl (Nat.le_of_ble_eq_true rfl) dX1_read_92 ?_
              refine g_goto (tgt := 119) C dX1_read_95 (by decide) ?_
              refine g_iinc C 1 [1, 0] dX1_read_119 rfl ic_1 (Nat.le_of_ble_eq_true rfl) rfl ?_
              refine g_goto (tgt := 34) C dX1_read_122 (by decide) ?_
              exact ih (v3 + (1 : Int32)) σ26 hf
          · refine g_aload_n C 0 dX1_read_69 rfl rfl ?_
            refine g_dup C dX1_read_70 rfl ?_
            refine g_getI C in_X1_read_X1 (k := 2) lk_X1_read_6 rfl (Nat.le_of_ble_eq_true rfl) rfl (Nat.le_of_ble_eq_true rfl) rfl dX1_read_71 ?_
            refine g_iconst C dX1_read_74 ic_1 ?_
            refine g_iadd C dX1_read_75 ?_
            refine g_putI C in_X1_read_X1 (k := 2) lk_X1_read_6 rfl (Nat.le_of_ble_eq_true rfl) rfl (Nat.le_of_ble_eq_true rfl) tyX1 tyX1_ok nmX1 rfl rfl rfl rfl dX1_read_76 ?_
            refine g_lets hf (fun σ27 hf => ?_)
            refine g_goto (tgt := 119) C dX1_read_79 (by decide) ?_
            refine g_iinc C 1 [1, 0] dX1_read_119 rfl ic_1 (Nat.le_of_ble_eq_true rfl) rfl ?_
            refine g_goto (tgt := 34) C dX1_read_122 (by decide) ?_
            exact ih (v3 + (1 : Int32)) σ27 hf
set_option maxHeartbeats 4000000 in
set_option maxRecDepth 100000 in
theorem mX1_read (l0 : Launch) (D0 : va_G) (K0 : Nat → ClassId) (h : Nat → Nat) (σ : pS) (a1 : Nat) (a2 : Int32) {r : Int32} {u : pS} (hf : fX1_read σ a1 a2 = some (r, u)) : Met l0 yX1_read wsX1_read ({ frames := 5, cells := 0, slots := 0, locals := 112 } : Room) (va_Pc [.ref (h 1), .ref (h a1), .int a2] (pIn wX D0 K0 h σ)) (va_Qi (fun r' u' => r' = r ∧ u' = u) (pOut wX D0 K0 h) (pA wX h)) 0 0 (pA wX h) := by
  refine p_metI (lv := [(0, .ref (h 1)), (1, .ref (h a1)), (2, .int a2)]) (by decide +kernel) rfl rfl (Nat.le_of_ble_eq_true rfl) rfl (fun X C hret => ?_)
  unfold fX1_read at hf
  refine g_aload_n C 0 dX1_read_0 rfl rfl ?_
  refine g_aload_n C 1 dX1_read_1 rfl rfl ?_
  refine g_putR C in_X1_read_X1 (k := 0) lk_X1_read_0 rfl (Nat.le_of_ble_eq_true rfl) rfl (Nat.le_of_ble_eq_true rfl) tyX1 tyX1_ok nmX1 rfl rfl rfl rfl dX1_read_2 ?_
  refine g_lets hf (fun σ1 hf => ?_)
  refine g_aload_n C 0 dX1_read_5 rfl rfl ?_
  refine g_iload_n C 2 dX1_read_6 rfl rfl ?_
  refine g_aload_n C 1 dX1_read_7 rfl rfl ?_
  obtain ⟨hg2, hf⟩ := g_guard hf
  obtain ⟨b3, he4, hl5⟩ := isA_spec hg2
  refine g_alen C he4 hl5 rfl dX1_read_8 ?_
  refine g_mmin C lk_X1_read_1 lk_X1_read_2 lk_X1_read_3 lk_X1_read_4 (Nat.le_of_ble_eq_true rfl) (Nat.le_of_ble_eq_true rfl) dX1_read_9 ?_
  refine g_leti hf (fun x6 hf => ?_)
  refine g_putI C in_X1_read_X1 (k := 1) lk_X1_read_5 rfl (Nat.le_of_ble_eq_true rfl) rfl (Nat.le_of_ble_eq_true rfl) tyX1 tyX1_ok nmX1 rfl rfl rfl rfl dX1_read_12 ?_
  refine g_lets hf (fun σ7 hf => ?_)
  refine g_aload_n C 0 dX1_read_15 rfl rfl ?_
  refine g_iconst C dX1_read_16 ic_0 ?_
  refine g_putI C in_X1_read_X1 (k := 2) lk_X1_read_6 rfl (Nat.le_of_ble_eq_true rfl) rfl (Nat.le_of_ble_eq_true rfl) tyX1 tyX1_ok nmX1 rfl rfl rfl rfl dX1_read_17 ?_
  refine g_lets hf (fun σ8 hf => ?_)
  refine g_aload_n C 0 dX1_read_20 rfl rfl ?_
  refine g_iconst C dX1_read_21 ic_0 ?_
  refine g_putI C in_X1_read_X1 (k := 3) lk_X1_read_7 rfl (Nat.le_of_ble_eq_true rfl) rfl (Nat.le_of_ble_eq_true rfl) tyX1 tyX1_ok nmX1 rfl rfl rfl rfl dX1_read_22 ?_
  refine g_lets hf (fun σ9 hf => ?_)
  refine g_aload_n C 0 dX1_read_25 rfl rfl ?_
  refine g_getR C in_X1_read_X1 (k := 4) lk_X1_read_8 rfl (Nat.le_of_ble_eq_true rfl) rfl (Nat.le_of_ble_eq_true rfl) rfl dX1_read_26 ?_
  obtain ⟨hg10, hf⟩ := g_guard hf
  obtain ⟨r12, σ13, hc11, hf⟩ := g_pbind hf
  refine g_callVv C (mX3_clear l0 D0 K0 h σ9 (pR σ9 1 4) hc11) gX1_read_X3_clear rfl rfl rfl ddX3_clear ⟨(Nat.le_of_ble_eq_true rfl), (Nat.le_of_ble_eq_true rfl)⟩ (shV hg10) (ltV hg10) rfl rfl rfl (Nat.le_of_ble_eq_true rfl) dX1_read_29 ?_
  refine g_iconst C dX1_read_32 ic_0 ?_
  refine g_istore_n C [1, 0] dX1_read_33 rfl (Nat.le_of_ble_eq_true rfl) rfl ?_
  refine lX1_read_34_ok  C hret (fun σ28 hf => ?_) FU (0 : Int32) σ13 hf
  refine g_aload_n C 0 dX1_read_125 rfl rfl ?_
  refine g_getI C in_X1_read_X1 (k := 3) lk_X1_read_7 rfl (Nat.le_of_ble_eq_true rfl) rfl (Nat.le_of_ble_eq_true rfl) rfl dX1_read_126 ?_
  refine g_if_eq (tgt := 139) hf C dX1_read_129 (by decide) (fun hf => ?_) (fun hf => ?_)
  · refine g_bipush C dX1_read_139 bp_m9 ?_
    exact g_retiW hf hret dX1_read_141
  · refine g_aload_n C 0 dX1_read_132 rfl rfl ?_
    refine g_getI C in_X1_read_X1 (k := 2) lk_X1_read_6 rfl (Nat.le_of_ble_eq_true rfl) rfl (Nat.le_of_ble_eq_true rfl) rfl dX1_read_133 ?_
    refine g_goto (tgt := 141) C dX1_read_136 (by decide) ?_
    exact g_retiW hf hret dX1_read_141
