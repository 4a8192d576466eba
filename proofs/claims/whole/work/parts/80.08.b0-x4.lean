/-! X4_find -/
theorem in_X4_find_X4 : ∀ q ∈ u_ws RX4 TX4 13, q ∈ wsX4_find := by decide +kernel
theorem lk_X4_find_0 : Cond.fieldLink RX4 68 "EmptyHouse" "latestFinding" "I" ∈ wsX4_find := by decide +kernel
theorem lk_X4_find_1 : Cond.fieldLink RX4 47 "EmptyHouse" "findingCounts" "[I" ∈ wsX4_find := by decide +kernel
theorem ddX4_find : yX4_find.cls = RX4 ∧ yX4_find.cls ≠ "java/lang/invoke/MethodHandle" ∧ yX4_find.cls ≠ "java/lang/invoke/VarHandle" ∧ (parseMethodDescriptor yX4_find.desc).map (fun d => d.parameters.length) = some 1 := by decide +kernel
set_option maxHeartbeats 4000000 in
set_option maxRecDepth 100000 in
theorem mX4_find (l0 : Launch) (D0 : va_G) (K0 : Nat → ClassId) (h : Nat → Nat) (σ : pS) (a1 : Int32) {r : Int32} {u : pS} (hf : fX4_find σ a1 = some (r, u)) : Met l0 yX4_find wsX4_find ({ frames := 0, cells := 0, slots := 0, locals := 0 } : Room) (va_Pc [.ref (h 0), .int a1] (pIn wX D0 K0 h σ)) (va_Qi (fun r' u' => r' = r ∧ u' = u) (pOut wX D0 K0 h) (pA wX h)) 0 0 (pA wX h) := by
  refine p_metI (lv := [(0, .ref (h 0)), (1, .int a1)]) (by decide +kernel) rfl rfl (Nat.le_of_ble_eq_true rfl) rfl (fun X C hret => ?_)
  unfold fX4_find at hf
  refine g_aload_n C 0 dX4_find_0 rfl rfl ?_
  refine g_iload_n C 1 dX4_find_1 rfl rfl ?_
  refine g_putI C in_X4_find_X4 (k := 12) lk_X4_find_0 rfl (Nat.le_of_ble_eq_true rfl) rfl (Nat.le_of_ble_eq_true rfl) tyX4 tyX4_ok nmX4 rfl rfl rfl rfl dX4_find_2 ?_
  refine g_lets hf (fun σ1 hf => ?_)
  refine g_aload_n C 0 dX4_find_5 rfl rfl ?_
  refine g_getC (n := 8) C in_X4_find_X4 (k := 7) lk_X4_find_1 rfl (Nat.le_of_ble_eq_true rfl) rfl (Nat.le_of_ble_eq_true rfl) rfl dX4_find_6 ?_
  refine g_iload_n C 1 dX4_find_9 rfl rfl ?_
  refine g_dup2 C dX4_find_10 rfl rfl ?_
  refine g_iald hf C rfl (Nat.le_of_ble_eq_true rfl) dX4_find_11 (fun hf => ?_)
  refine g_iconst C dX4_find_12 ic_1 ?_
  refine g_iadd C dX4_find_13 ?_
  refine g_iast hf C rfl (Nat.le_of_ble_eq_true rfl) dX4_find_14 (fun hf => ?_)
  refine g_lets hf (fun σ2 hf => ?_)
  refine g_bipush C dX4_find_15 bp_m3 ?_
  exact g_retiW hf hret dX4_find_17
/-! X4_isRow -/
theorem ddX4_isRow : yX4_isRow.cls ≠ "java/lang/invoke/MethodHandle" ∧ yX4_isRow.cls ≠ "java/lang/invoke/VarHandle" ∧ (parseMethodDescriptor yX4_isRow.desc).map (fun d => d.parameters.length) = some 1 := by decide +kernel
set_option maxHeartbeats 4000000 in
set_option maxRecDepth 100000 in
theorem mX4_isRow (l0 : Launch) (D0 : va_G) (K0 : Nat → ClassId) (h : Nat → Nat) (σ : pS) (a1 : Int32) {r : Int32} (hf : fX4_isRow a1 = some r) : Met l0 yX4_isRow wsX4_isRow ({ frames := 0, cells := 0, slots := 0, locals := 0 } : Room) (va_Pc [.int a1] (pIn wX D0 K0 h σ)) (va_Qi (fun r' u' => r' = r ∧ u' = σ) (pOut wX D0 K0 h) (pA wX h)) 0 0 (pA wX h) := by
  refine p_metZ (lv := [(0, .int a1)]) (by decide +kernel) rfl rfl (Nat.le_of_ble_eq_true rfl) rfl (fun X C hret => ?_)
  unfold fX4_isRow at hf
  refine g_iload_n C 0 dX4_isRow_0 rfl rfl ?_
  refine g_if_lt (tgt := 14) hf C dX4_isRow_1 (by decide) (fun hf => ?_) (fun hf => ?_)
  · refine g_iconst C dX4_isRow_14 ic_0 ?_
    exact g_retz hf (by decide) hret dX4_isRow_15
  · refine g_iload_n C 0 dX4_isRow_4 rfl rfl ?_
    refine g_bipush C dX4_isRow_5 bp_6 ?_
    refine g_icmp_ge (tgt := 14) hf C dX4_isRow_7 (by decide) (fun hf => ?_) (fun hf => ?_)
    · refine g_iconst C dX4_isRow_14 ic_0 ?_
      exact g_retz hf (by decide) hret dX4_isRow_15
    · refine g_iconst C dX4_isRow_10 ic_1 ?_
      refine g_goto (tgt := 15) C dX4_isRow_11 (by decide) ?_
      exact g_retz hf (by decide) hret dX4_isRow_15
/-! X4_layOutRow -/
theorem in_X4_layOutRow_X4 : ∀ q ∈ u_ws RX4 TX4 13, q ∈ wsX4_layOutRow := by decide +kernel
theorem lk_X4_layOutRow_0 : Cond.fieldLink RX4 11 "EmptyHouse" "rows" "[[I" ∈ wsX4_layOutRow := by decide +kernel
theorem lk_X4_layOutRow_1 : Cond.fieldLink RX4 14 "EmptyHouse" "rowSizes" "[I" ∈ wsX4_layOutRow := by decide +kernel
theorem ddX4_layOutRow : yX4_layOutRow.cls = RX4 ∧ yX4_layOutRow.cls ≠ "java/lang/invoke/MethodHandle" ∧ yX4_layOutRow.cls ≠ "java/lang/invoke/VarHandle" ∧ (parseMethodDescriptor yX4_layOutRow.desc).map (fun d => d.parameters.length) = some 3 := by decide +kernel
set_option maxHeartbeats 4000000 in
set_option maxRecDepth 100000 in
theorem mX4_layOutRow (l0 : Launch) (D0 : va_G) (K0 : Nat → ClassId) (h : Nat → Nat) (σ : pS) (a1 : Int32) (a2 : Int32) (a3 : Int32) {r : Unit} {u : pS} (hf : fX4_layOutRow σ a1 a2 a3 = some (r, u)) : Met l0 yX4_layOutRow wsX4_layOutRow ({ frames := 1, cells := 0, slots := 0, locals := 23 } : Room) (va_Pc [.ref (h 0), .int a1, .int a2, .int a3] (pIn wX D0 K0 h σ)) (va_Qv (fun u' => u' = u) (pOut wX D0 K0 h) (pA wX h)) 0 0 (pA wX h) := by
  refine p_metV (lv := [(0, .ref (h 0)), (1, .int a1), (2, .int a2), (3, .int a3)]) (by decide +kernel) rfl rfl (Nat.le_of_ble_eq_true rfl) rfl (fun X C hret => ?_)
  unfold fX4_layOutRow at hf
  refine g_aload_n C 0 dX4_layOutRow_0 rfl rfl ?_
  refine g_getC (n := 4) C in_X4_layOutRow_X4 (k := 0) lk_X4_layOutRow_0 rfl (Nat.le_of_ble_eq_true rfl) rfl (Nat.le_of_ble_eq_true rfl) rfl dX4_layOutRow_1 ?_
  refine g_iload_n C 1 dX4_layOutRow_4 rfl rfl ?_
  refine g_aald hf C rfl (by decide) (Nat.le_of_ble_eq_true rfl) dX4_layOutRow_5 (fun hp1 hf => ?_)
  refine g_iload_n C 3 dX4_layOutRow_6 rfl rfl ?_
  obtain ⟨r3, σ4, hc2, hf⟩ := g_pbind hf
  refine g_callSv C (mJ7_fill_53178 l0 D0 K0 h σ (20 + (a1).toNatClampNeg) a3 hc2) gX4_layOutRow_J7_fill_53178 rfl rfl rfl ddJ7_fill_53178 ⟨(Nat.le_of_ble_eq_true rfl), (Nat.le_of_ble_eq_true rfl)⟩ rfl rfl (Nat.le_of_ble_eq_true rfl) dX4_layOutRow_7 ?_
  refine g_aload_n C 0 dX4_layOutRow_10 rfl rfl ?_
  refine g_getC (n := 5) C in_X4_layOutRow_X4 (k := 1) lk_X4_layOutRow_1 rfl (Nat.le_of_ble_eq_true rfl) rfl (Nat.le_of_ble_eq_true rfl) rfl dX4_layOutRow_11 ?_
  refine g_iload_n C 1 dX4_layOutRow_14 rfl rfl ?_
  refine g_iload_n C 2 dX4_layOutRow_15 rfl rfl ?_
  refine g_iast hf C rfl (Nat.le_of_ble_eq_true rfl) dX4_layOutRow_16 (fun hf => ?_)
  refine g_lets hf (fun σ5 hf => ?_)
  exact g_retvW hf hret dX4_layOutRow_17
/-! X4_row -/
theorem ddX4_row : yX4_row.cls = RX4 ∧ yX4_row.cls ≠ "java/lang/invoke/MethodHandle" ∧ yX4_row.cls ≠ "java/lang/invoke/VarHandle" ∧ (parseMethodDescriptor yX4_row.desc).map (fun d => d.parameters.length) = some 2 := by decide +kernel
set_option maxHeartbeats 4000000 in
set_option maxRecDepth 100000 in
theorem mX4_row (l0 : Launch) (D0 : va_G) (K0 : Nat → ClassId) (h : Nat → Nat) (σ : pS) (a1 : Int32) (a2 : Int32) {r : Int32} {u : pS} (hf : fX4_row σ a1 a2 = some (r, u)) : Met l0 yX4_row wsX4_row ({ frames := 2, cells := 0, slots := 0, locals := 46 } : Room) (va_Pc [.ref (h 0), .int a1, .int a2] (pIn wX D0 K0 h σ)) (va_Qi (fun r' u' => r' = r ∧ u' = u) (pOut wX D0 K0 h) (pA wX h)) 0 0 (pA wX h) := by
  refine p_metI (lv := [(0, .ref (h 0)), (1, .int a1), (2, .int a2)]) (by decide +kernel) rfl rfl (Nat.le_of_ble_eq_true rfl) rfl (fun X C hret => ?_)
  unfold fX4_row at hf
  refine g_iload_n C 1 dX4_row_0 rfl rfl ?_
  obtain ⟨r2, hc1, hf⟩ := g_bind hf
  refine g_callSi C (mX4_isRow l0 D0 K0 h σ a1 hc1) gX4_row_X4_isRow rfl rfl rfl ddX4_isRow ⟨(Nat.le_of_ble_eq_true rfl), (Nat.le_of_ble_eq_true rfl)⟩ rfl rfl (Nat.le_of_ble_eq_true rfl) dX4_row_1 ?_
  refine g_if_eq (tgt := 13) hf C dX4_row_4 (by decide) (fun hf => ?_) (fun hf => ?_)
  · refine g_iconst C dX4_row_13 ic_m1 ?_
    exact g_retiW hf hret dX4_row_14
  · refine g_iload_n C 2 dX4_row_7 rfl rfl ?_
    refine g_bipush C dX4_row_8 bp_60 ?_
    refine g_icmp_le (tgt := 15) hf C dX4_row_10 (by decide) (fun hf => ?_) (fun hf => ?_)
    · refine g_iload_n C 2 dX4_row_15 rfl rfl ?_
      refine g_if_ge (tgt := 25) hf C dX4_row_16 (by decide) (fun hf => ?_) (fun hf => ?_)
      · refine g_aload_n C 0 dX4_row_25 rfl rfl ?_
        refine g_iload_n C 1 dX4_row_26 rfl rfl ?_
        refine g_iload_n C 2 dX4_row_27 rfl rfl ?_
        refine g_iconst C dX4_row_28 ic_0 ?_
        obtain ⟨r4, σ5, hc3, hf⟩ := g_pbind hf
        refine g_callVv C (mX4_layOutRow l0 D0 K0 h σ a1 a2 (0 : Int32) hc3) gX4_row_X4_layOutRow rfl rfl rfl ddX4_layOutRow ⟨(Nat.le_of_ble_eq_true rfl), (Nat.le_of_ble_eq_true rfl)⟩ rfl (Nat.le_of_ble_eq_true rfl) rfl rfl rfl (Nat.le_of_ble_eq_true rfl) dX4_row_29 ?_
        refine g_iload_n C 2 dX4_row_32 rfl rfl ?_
        exact g_retiW hf hret dX4_row_33
      · refine g_aload_n C 0 dX4_row_19 rfl rfl ?_
        refine g_iconst C dX4_row_20 ic_5 ?_
        obtain ⟨r7, σ8, hc6, hf⟩ := g_pbind hf
        refine g_callVi C (mX4_find l0 D0 K0 h σ (5 : Int32) hc6) gX4_row_X4_find rfl rfl rfl ddX4_find ⟨(Nat.le_of_ble_eq_true rfl), (Nat.le_of_ble_eq_true rfl)⟩ rfl (Nat.le_of_ble_eq_true rfl) rfl rfl rfl (Nat.le_of_ble_eq_true rfl) dX4_row_21 ?_
        exact g_retiW hf hret dX4_row_24
    · refine g_iconst C dX4_row_13 ic_m1 ?_
      exact g_retiW hf hret dX4_row_14
/-! X4_hasPlaces -/
theorem ddX4_hasPlaces : yX4_hasPlaces.cls ≠ "java/lang/invoke/MethodHandle" ∧ yX4_hasPlaces.cls ≠ "java/lang/invoke/VarHandle" ∧ (parseMethodDescriptor yX4_hasPlaces.desc).map (fun d => d.parameters.length) = some 3 := by decide +kernel
set_option maxHeartbeats 4000000 in
set_option maxRecDepth 100000 in
theorem mX4_hasPlaces (l0 : Launch) (D0 : va_G) (K0 : Nat → ClassId) (h : Nat → Nat) (σ : pS) (a1 : Int32) (a2 : Int32) (a3 : Int32) {r : Int32} (hf : fX4_hasPlaces a1 a2 a3 = some r) : Met l0 yX4_hasPlaces wsX4_hasPlaces ({ frames := 0, cells := 0, slots := 0, locals := 0 } : Room) (va_Pc [.int a1, .int a2, .int a3] (pIn wX D0 K0 h σ)) (va_Qi (fun r' u' => r' = r ∧ u' = σ) (pOut wX D0 K0 h) (pA wX h)) 0 0 (pA wX h) := by
  refine p_metZ (lv := [(0, .int a1), (1, .int a2), (2, .int a3)]) (by decide +kernel) rfl rfl (Nat.le_of_ble_eq_true rfl) rfl (fun X C hret => ?_)
  unfold fX4_hasPlaces at hf
  refine g_iload_n C 1 dX4_hasPlaces_0 rfl rfl ?_
  refine g_if_lt (tgt := 20) hf C dX4_hasPlaces_1 (by decide) (fun hf => ?_) (fun hf => ?_)
  · refine g_iconst C dX4_hasPlaces_20 ic_0 ?_
    exact g_retz hf (by decide) hret dX4_hasPlaces_21
  · refine g_iload_n C 1 dX4_hasPlaces_4 rfl rfl ?_
    refine g_iload_n C 0 dX4_hasPlaces_5 rfl rfl ?_
    refine g_icmp_gt (tgt := 20) hf C dX4_hasPlaces_6 (by decide) (fun hf => ?_) (fun hf => ?_)
    · refine g_iconst C dX4_hasPlaces_20 ic_0 ?_
      exact g_retz hf (by decide) hret dX4_hasPlaces_21
    · refine g_iload_n C 2 dX4_hasPlaces_9 rfl rfl ?_
      refine g_iload_n C 0 dX4_hasPlaces_10 rfl rfl ?_
      refine g_iload_n C 1 dX4_hasPlaces_11 rfl rfl ?_
      refine g_isub C dX4_hasPlaces_12 ?_
      refine g_icmp_gt (tgt := 20) hf C dX4_hasPlaces_13 (by decide) (fun hf => ?_) (fun hf => ?_)
      · refine g_iconst C dX4_hasPlaces_20 ic_0 ?_
        exact g_retz hf (by decide) hret dX4_hasPlaces_21
      · refine g_iconst C dX4_hasPlaces_16 ic_1 ?_
        refine g_goto (tgt := 21) C dX4_hasPlaces_17 (by decide) ?_
        exact g_retz hf (by decide) hret dX4_hasPlaces_21
/-! X4_refusePlace -/
theorem in_X4_refusePlace_X4 : ∀ q ∈ u_ws RX4 TX4 13, q ∈ wsX4_refusePlace := by decide +kernel
theorem lk_X4_refusePlace_0 : Cond.fieldLink RX4 14 "EmptyHouse" "rowSizes" "[I" ∈ wsX4_refusePlace := by decide +kernel
theorem ddX4_refusePlace : yX4_refusePlace.cls = RX4 ∧ yX4_refusePlace.cls ≠ "java/lang/invoke/MethodHandle" ∧ yX4_refusePlace.cls ≠ "java/lang/invoke/VarHandle" ∧ (parseMethodDescriptor yX4_refusePlace.desc).map (fun d => d.parameters.length) = some 2 := by decide +kernel
set_option maxHeartbeats 4000000 in
set_option maxRecDepth 100000 in
theorem mX4_refusePlace (l0 : Launch) (D0 : va_G) (K0 : Nat → ClassId) (h : Nat → Nat) (σ : pS) (a1 : Int32) (a2 : Int32) {r : Int32} {u : pS} (hf : fX4_refusePlace σ a1 a2 = some (r, u)) : Met l0 yX4_refusePlace wsX4_refusePlace ({ frames := 1, cells := 0, slots := 0, locals := 22 } : Room) (va_Pc [.ref (h 0), .int a1, .int a2] (pIn wX D0 K0 h σ)) (va_Qi (fun r' u' => r' = r ∧ u' = u) (pOut wX D0 K0 h) (pA wX h)) 0 0 (pA wX h) := by
  refine p_metI (lv := [(0, .ref (h 0)), (1, .int a1), (2, .int a2)]) (by decide +kernel) rfl rfl (Nat.le_of_ble_eq_true rfl) rfl (fun X C hret => ?_)
  unfold fX4_refusePlace at hf
  refine g_iload_n C 1 dX4_refusePlace_0 rfl rfl ?_
  obtain ⟨r2, hc1, hf⟩ := g_bind hf
  refine g_callSi C (mX4_isRow l0 D0 K0 h σ a1 hc1) gX4_refusePlace_X4_isRow rfl rfl rfl ddX4_isRow ⟨(Nat.le_of_ble_eq_true rfl), (Nat.le_of_ble_eq_true rfl)⟩ rfl rfl (Nat.le_of_ble_eq_true rfl) dX4_refusePlace_1 ?_
  refine g_if_ne (tgt := 9) hf C dX4_refusePlace_4 (by decide) (fun hf => ?_) (fun hf => ?_)
  · refine g_aload_n C 0 dX4_refusePlace_9 rfl rfl ?_
    refine g_getC (n := 5) C in_X4_refusePlace_X4 (k := 1) lk_X4_refusePlace_0 rfl (Nat.le_of_ble_eq_true rfl) rfl (Nat.le_of_ble_eq_true rfl) rfl dX4_refusePlace_10 ?_
    refine g_iload_n C 1 dX4_refusePlace_13 rfl rfl ?_
    refine g_iald hf C rfl (Nat.le_of_ble_eq_true rfl) dX4_refusePlace_14 (fun hf => ?_)
    refine g_iconst C dX4_refusePlace_15 ic_m1 ?_
    refine g_icmp_ne (tgt := 25) hf C dX4_refusePlace_16 (by decide) (fun hf => ?_) (fun hf => ?_)
    · refine g_aload_n C 0 dX4_refusePlace_25 rfl rfl ?_
      refine g_getC (n := 5) C in_X4_refusePlace_X4 (k := 1) lk_X4_refusePlace_0 rfl (Nat.le_of_ble_eq_true rfl) rfl (Nat.le_of_ble_eq_true rfl) rfl dX4_refusePlace_26 ?_
      refine g_iload_n C 1 dX4_refusePlace_29 rfl rfl ?_
      refine g_iald hf C rfl (Nat.le_of_ble_eq_true rfl) dX4_refusePlace_30 (fun hf => ?_)
      refine g_iload_n C 2 dX4_refusePlace_31 rfl rfl ?_
      refine g_iconst C dX4_refusePlace_32 ic_1 ?_
      obtain ⟨r4, hc3, hf⟩ := g_bind hf
      refine g_callSi C (mX4_hasPlaces l0 D0 K0 h σ (pI σ 5 (a1).toNatClampNeg) a2 (1 : Int32) hc3) gX4_refusePlace_X4_hasPlaces rfl rfl rfl ddX4_hasPlaces ⟨(Nat.le_of_ble_eq_true rfl), (Nat.le_of_ble_eq_true rfl)⟩ rfl rfl (Nat.le_of_ble_eq_true rfl) dX4_refusePlace_33 ?_
      refine g_if_eq (tgt := 43) hf C dX4_refusePlace_36 (by decide) (fun hf => ?_) (fun hf => ?_)
      · refine g_aload_n C 0 dX4_refusePlace_43 rfl rfl ?_
        refine g_iconst C dX4_refusePlace_44 ic_2 ?_
        obtain ⟨r6, σ7, hc5, hf⟩ := g_pbind hf
        refine g_callVi C (mX4_find l0 D0 K0 h σ (2 : Int32) hc5) gX4_refusePlace_X4_find rfl rfl rfl ddX4_find ⟨(Nat.le_of_ble_eq_true rfl), (Nat.le_of_ble_eq_true rfl)⟩ rfl (Nat.le_of_ble_eq_true rfl) rfl rfl rfl (Nat.le_of_ble_eq_true rfl) dX4_refusePlace_45 ?_
        exact g_retiW hf hret dX4_refusePlace_48
      · refine g_iconst C dX4_refusePlace_39 ic_0 ?_
        refine g_goto (tgt := 48) C dX4_refusePlace_40 (by decide) ?_
        exact g_retiW hf hret dX4_refusePlace_48
    · refine g_aload_n C 0 dX4_refusePlace_19 rfl rfl ?_
      refine g_iconst C dX4_refusePlace_20 ic_1 ?_
      obtain ⟨r9, σ10, hc8, hf⟩ := g_pbind hf
      refine g_callVi C (mX4_find l0 D0 K0 h σ (1 : Int32) hc8) gX4_refusePlace_X4_find rfl rfl rfl ddX4_find ⟨(Nat.le_of_ble_eq_true rfl), (Nat.le_of_ble_eq_true rfl)⟩ rfl (Nat.le_of_ble_eq_true rfl) rfl rfl rfl (Nat.le_of_ble_eq_true rfl) dX4_refusePlace_21 ?_
      exact g_retiW hf hret dX4_refusePlace_24
  · refine g_iconst C dX4_refusePlace_7 ic_m1 ?_
    exact g_retiW hf hret dX4_refusePlace_8
/-! X4_lay -/
theorem in_X4_lay_X4 : ∀ q ∈ u_ws RX4 TX4 13, q ∈ wsX4_lay := by decide +kernel
theorem lk_X4_lay_0 : Cond.fieldLink RX4 11 "EmptyHouse" "rows" "[[I" ∈ wsX4_lay := by decide +kernel
theorem lk_X4_lay_1 : Cond.fieldLink RX4 57 "EmptyHouse" "told" "I" ∈ wsX4_lay := by decide +kernel
theorem ddX4_lay : yX4_lay.cls = RX4 ∧ yX4_lay.cls ≠ "java/lang/invoke/MethodHandle" ∧ yX4_lay.cls ≠ "java/lang/invoke/VarHandle" ∧ (parseMethodDescriptor yX4_lay.desc).map (fun d => d.parameters.length) = some 3 := by decide +kernel
set_option maxHeartbeats 4000000 in
set_option maxRecDepth 100000 in
theorem mX4_lay (l0 : Launch) (D0 : va_G) (K0 : Nat → ClassId) (h : Nat → Nat) (σ : pS) (a1 : Int32) (a2 : Int32) (a3 : Int32) {r : Int32} {u : pS} (hf : fX4_lay σ a1 a2 a3 = some (r, u)) : Met l0 yX4_lay wsX4_lay ({ frames := 2, cells := 0, slots := 0, locals := 44 } : Room) (va_Pc [.ref (h 0), .int a1, .int a2, .int a3] (pIn wX D0 K0 h σ)) (va_Qi (fun r' u' => r' = r ∧ u' = u) (pOut wX D0 K0 h) (pA wX h)) 0 0 (pA wX h) := by
  refine p_metI (lv := [(0, .ref (h 0)), (1, .int a1), (2, .int a2), (3, .int a3)]) (by decide +kernel) rfl rfl (Nat.le_of_ble_eq_true rfl) rfl (fun X C hret => ?_)
  unfold fX4_lay at hf
  refine g_aload_n C 0 dX4_lay_0 rfl rfl ?_
  refine g_iload_n C 1 dX4_lay_1 rfl rfl ?_
  refine g_iload_n C 2 dX4_lay_2 rfl rfl ?_
  obtain ⟨r2, σ3, hc1, hf⟩ := g_pbind hf
  refine g_callVi C (mX4_refusePlace l0 D0 K0 h σ a1 a2 hc1) gX4_lay_X4_refusePlace rfl rfl rfl ddX4_refusePlace ⟨(Nat.le_of_ble_eq_true rfl), (Nat.le_of_ble_eq_true rfl)⟩ rfl (Nat.le_of_ble_eq_true rfl) rfl rfl rfl (Nat.le_of_ble_eq_true rfl) dX4_lay_3 ?_
  refine g_istore C [1, 2, 3, 4, 0] dX4_lay_6 (Nat.le_of_ble_eq_true rfl) rfl ?_
  refine g_iload C 4 dX4_lay_8 rfl ?_
  refine g_if_eq (tgt := 16) hf C dX4_lay_10 (by decide) (fun hf => ?_) (fun hf => ?_)
  · refine g_aload_n C 0 dX4_lay_16 rfl rfl ?_
    refine g_aload_n C 0 dX4_lay_17 rfl rfl ?_
    refine g_getC (n := 4) C in_X4_lay_X4 (k := 0) lk_X4_lay_0 rfl (Nat.le_of_ble_eq_true rfl) rfl (Nat.le_of_ble_eq_true rfl) rfl dX4_lay_18 ?_
    refine g_iload_n C 1 dX4_lay_21 rfl rfl ?_
    refine g_aald hf C rfl (by decide) (Nat.le_of_ble_eq_true rfl) dX4_lay_22 (fun hp4 hf => ?_)
    refine g_iload_n C 2 dX4_lay_23 rfl rfl ?_
    refine g_iald hf C (sh_row _ (pin_lt hp4)).1 (sh_row _ (pin_lt hp4)).2 dX4_lay_24 (fun hf => ?_)
    refine g_putI C in_X4_lay_X4 (k := 9) lk_X4_lay_1 rfl (Nat.le_of_ble_eq_true rfl) rfl (Nat.le_of_ble_eq_true rfl) tyX4 tyX4_ok nmX4 rfl rfl rfl rfl dX4_lay_25 ?_
    refine g_lets hf (fun σ5 hf => ?_)
    refine g_aload_n C 0 dX4_lay_28 rfl rfl ?_
    refine g_getC (n := 4) C in_X4_lay_X4 (k := 0) lk_X4_lay_0 rfl (Nat.le_of_ble_eq_true rfl) rfl (Nat.le_of_ble_eq_true rfl) rfl dX4_lay_29 ?_
    refine g_iload_n C 1 dX4_lay_32 rfl rfl ?_
    refine g_aald hf C rfl (by decide) (Nat.le_of_ble_eq_true rfl) dX4_lay_33 (fun hp6 hf => ?_)
    refine g_iload_n C 2 dX4_lay_34 rfl rfl ?_
    refine g_iload_n C 3 dX4_lay_35 rfl rfl ?_
    refine g_iast hf C (sh_row _ (pin_lt hp6)).1 (sh_row _ (pin_lt hp6)).2 dX4_lay_36 (fun hf => ?_)
    refine g_lets hf (fun σ7 hf => ?_)
    refine g_iconst C dX4_lay_37 ic_1 ?_
    exact g_retiW hf hret dX4_lay_38
  · refine g_iload C 4 dX4_lay_13 rfl ?_
    exact g_retiW hf hret dX4_lay_15
/-! X4_at -/
theorem in_X4_at_X4 : ∀ q ∈ u_ws RX4 TX4 13, q ∈ wsX4_at := by decide +kernel
theorem lk_X4_at_0 : Cond.fieldLink RX4 11 "EmptyHouse" "rows" "[[I" ∈ wsX4_at := by decide +kernel
theorem lk_X4_at_1 : Cond.fieldLink RX4 57 "EmptyHouse" "told" "I" ∈ wsX4_at := by decide +kernel
theorem ddX4_at : yX4_at.cls = RX4 ∧ yX4_at.cls ≠ "java/lang/invoke/MethodHandle" ∧ yX4_at.cls ≠ "java/lang/invoke/VarHandle" ∧ (parseMethodDescriptor yX4_at.desc).map (fun d => d.parameters.length) = some 2 := by decide +kernel
set_option maxHeartbeats 4000000 in
set_option maxRecDepth 100000 in
theorem mX4_at (l0 : Launch) (D0 : va_G) (K0 : Nat → ClassId) (h : Nat → Nat) (σ : pS) (a1 : Int32) (a2 : Int32) {r : Int32} {u : pS} (hf : fX4_at σ a1 a2 = some (r, u)) : Met l0 yX4_at wsX4_at ({ frames := 2, cells := 0, slots := 0, locals := 44 } : Room) (va_Pc [.ref (h 0), .int a1, .int a2] (pIn wX D0 K0 h σ)) (va_Qi (fun r' u' => r' = r ∧ u' = u) (pOut wX D0 K0 h) (pA wX h)) 0 0 (pA wX h) := by
  refine p_metI (lv := [(0, .ref (h 0)), (1, .int a1), (2, .int a2)]) (by decide +kernel) rfl rfl (Nat.le_of_ble_eq_true rfl) rfl (fun X C hret => ?_)
  unfold fX4_at at hf
  refine g_aload_n C 0 dX4_at_0 rfl rfl ?_
  refine g_iload_n C 1 dX4_at_1 rfl rfl ?_
  refine g_iload_n C 2 dX4_at_2 rfl rfl ?_
  obtain ⟨r2, σ3, hc1, hf⟩ := g_pbind hf
  refine g_callVi C (mX4_refusePlace l0 D0 K0 h σ a1 a2 hc1) gX4_at_X4_refusePlace rfl rfl rfl ddX4_refusePlace ⟨(Nat.le_of_ble_eq_true rfl), (Nat.le_of_ble_eq_true rfl)⟩ rfl (Nat.le_of_ble_eq_true rfl) rfl rfl rfl (Nat.le_of_ble_eq_true rfl) dX4_at_3 ?_
  refine g_istore_n C [1, 2, 3, 0] dX4_at_6 rfl (Nat.le_of_ble_eq_true rfl) rfl ?_
  refine g_iload_n C 3 dX4_at_7 rfl rfl ?_
  refine g_if_eq (tgt := 13) hf C dX4_at_8 (by decide) (fun hf => ?_) (fun hf => ?_)
  · refine g_aload_n C 0 dX4_at_13 rfl rfl ?_
    refine g_aload_n C 0 dX4_at_14 rfl rfl ?_
    refine g_getC (n := 4) C in_X4_at_X4 (k := 0) lk_X4_at_0 rfl (Nat.le_of_ble_eq_true rfl) rfl (Nat.le_of_ble_eq_true rfl) rfl dX4_at_15 ?_
    refine g_iload_n C 1 dX4_at_18 rfl rfl ?_
    refine g_aald hf C rfl (by decide) (Nat.le_of_ble_eq_true rfl) dX4_at_19 (fun hp4 hf => ?_)
    refine g_iload_n C 2 dX4_at_20 rfl rfl ?_
    refine g_iald hf C (sh_row _ (pin_lt hp4)).1 (sh_row _ (pin_lt hp4)).2 dX4_at_21 (fun hf => ?_)
    refine g_putI C in_X4_at_X4 (k := 9) lk_X4_at_1 rfl (Nat.le_of_ble_eq_true rfl) rfl (Nat.le_of_ble_eq_true rfl) tyX4 tyX4_ok nmX4 rfl rfl rfl rfl dX4_at_22 ?_
    refine g_lets hf (fun σ5 hf => ?_)
    refine g_iconst C dX4_at_25 ic_1 ?_
    exact g_retiW hf hret dX4_at_26
  · refine g_iload_n C 3 dX4_at_11 rfl rfl ?_
    exact g_retiW hf hret dX4_at_12
/-! X4_tear -/
theorem in_X4_tear_X4 : ∀ q ∈ u_ws RX4 TX4 13, q ∈ wsX4_tear := by decide +kernel
theorem lk_X4_tear_0 : Cond.fieldLink RX4 14 "EmptyHouse" "rowSizes" "[I" ∈ wsX4_tear := by decide +kernel
theorem ddX4_tear : yX4_tear.cls = RX4 ∧ yX4_tear.cls ≠ "java/lang/invoke/MethodHandle" ∧ yX4_tear.cls ≠ "java/lang/invoke/VarHandle" ∧ (parseMethodDescriptor yX4_tear.desc).map (fun d => d.parameters.length) = some 1 := by decide +kernel
set_option maxHeartbeats 4000000 in
set_option maxRecDepth 100000 in
theorem mX4_tear (l0 : Launch) (D0 : va_G) (K0 : Nat → ClassId) (h : Nat → Nat) (σ : pS) (a1 : Int32) {r : Int32} {u : pS} (hf : fX4_tear σ a1 = some (r, u)) : Met l0 yX4_tear wsX4_tear ({ frames := 1, cells := 0, slots := 0, locals := 21 } : Room) (va_Pc [.ref (h 0), .int a1] (pIn wX D0 K0 h σ)) (va_Qi (fun r' u' => r' = r ∧ u' = u) (pOut wX D0 K0 h) (pA wX h)) 0 0 (pA wX h) := by
  refine p_metI (lv := [(0, .ref (h 0)), (1, .int a1)]) (by decide +kernel) rfl rfl (Nat.le_of_ble_eq_true rfl) rfl (fun X C hret => ?_)
  unfold fX4_tear at hf
  refine g_iload_n C 1 dX4_tear_0 rfl rfl ?_
  obtain ⟨r2, hc1, hf⟩ := g_bind hf
  refine g_callSi C (mX4_isRow l0 D0 K0 h σ a1 hc1) gX4_tear_X4_isRow rfl rfl rfl ddX4_isRow ⟨(Nat.le_of_ble_eq_true rfl), (Nat.le_of_ble_eq_true rfl)⟩ rfl rfl (Nat.le_of_ble_eq_true rfl) dX4_tear_1 ?_
  refine g_if_ne (tgt := 9) hf C dX4_tear_4 (by decide) (fun hf => ?_) (fun hf => ?_)
  · refine g_aload_n C 0 dX4_tear_9 rfl rfl ?_
    refine g_getC (n := 5) C in_X4_tear_X4 (k := 1) lk_X4_tear_0 rfl (Nat.le_of_ble_eq_true rfl) rfl (Nat.le_of_ble_eq_true rfl) rfl dX4_tear_10 ?_
    refine g_iload_n C 1 dX4_tear_13 rfl rfl ?_
    refine g_iald hf C rfl (Nat.le_of_ble_eq_true rfl) dX4_tear_14 (fun hf => ?_)
    refine g_iconst C dX4_tear_15 ic_m1 ?_
    refine g_icmp_ne (tgt := 25) hf C dX4_tear_16 (by decide) (fun hf => ?_) (fun hf => ?_)
    · refine g_aload_n C 0 dX4_tear_25 rfl rfl ?_
      refine g_getC (n := 5) C in_X4_tear_X4 (k := 1) lk_X4_tear_0 rfl (Nat.le_of_ble_eq_true rfl) rfl (Nat.le_of_ble_eq_true rfl) rfl dX4_tear_26 ?_
      refine g_iload_n C 1 dX4_tear_29 rfl rfl ?_
      refine g_iconst C dX4_tear_30 ic_m1 ?_
      refine g_iast hf C rfl (Nat.le_of_ble_eq_true rfl) dX4_tear_31 (fun hf => ?_)
      refine g_lets hf (fun σ3 hf => ?_)
      refine g_iconst C dX4_tear_32 ic_1 ?_
      exact g_retiW hf hret dX4_tear_33
    · refine g_aload_n C 0 dX4_tear_19 rfl rfl ?_
      refine g_iconst C dX4_tear_20 ic_1 ?_
      obtain ⟨r5, σ6, hc4, hf⟩ := g_pbind hf
      refine g_callVi C (mX4_find l0 D0 K0 h σ (1 : Int32) hc4) gX4_tear_X4_find rfl rfl rfl ddX4_find ⟨(Nat.le_of_ble_eq_true rfl), (Nat.le_of_ble_eq_true rfl)⟩ rfl (Nat.le_of_ble_eq_true rfl) rfl rfl rfl (Nat.le_of_ble_eq_true rfl) dX4_tear_21 ?_
      exact g_retiW hf hret dX4_tear_24
  · refine g_iconst C dX4_tear_7 ic_m1 ?_
    exact g_retiW hf hret dX4_tear_8
/-! X4_copy -/
theorem in_X4_copy_X4 : ∀ q ∈ u_ws RX4 TX4 13, q ∈ wsX4_copy := by decide +kernel
theorem lk_X4_copy_0 : Cond.fieldLink RX4 14 "EmptyHouse" "rowSizes" "[I" ∈ wsX4_copy := by decide +kernel
theorem lk_X4_copy_1 : Cond.fieldLink RX4 11 "EmptyHouse" "rows" "[[I" ∈ wsX4_copy := by decide +kernel
theorem lk_X4_copy_2 : Cond.methodLink RX4 97 arraycopyName ∈ wsX4_copy := by decide +kernel
theorem lk_X4_copy_3 : Cond.native arraycopyName ∈ wsX4_copy := by decide +kernel
theorem lk_X4_copy_4 : Cond.static arraycopyName ∈ wsX4_copy := by decide +kernel
theorem lk_X4_copy_5 : Cond.initialized "java/lang/System" ∈ wsX4_copy := by decide +kernel
theorem ddX4_copy : yX4_copy.cls = RX4 ∧ yX4_copy.cls ≠ "java/lang/invoke/MethodHandle" ∧ yX4_copy.cls ≠ "java/lang/invoke/VarHandle" ∧ (parseMethodDescriptor yX4_copy.desc).map (fun d => d.parameters.length) = some 5 := by decide +kernel
set_option maxHeartbeats 4000000 in
set_option maxRecDepth 100000 in
theorem mX4_copy (l0 : Launch) (D0 : va_G) (K0 : Nat → ClassId) (h : Nat → Nat) (σ : pS) (a1 : Int32) (a2 : Int32) (a3 : Int32) (a4 : Int32) (a5 : Int32) {r : Int32} {u : pS} (hf : fX4_copy σ a1 a2 a3 a4 a5 = some (r, u)) : Met l0 yX4_copy wsX4_copy ({ frames := 1, cells := 0, slots := 0, locals := 60 } : Room) (va_Pc [.ref (h 0), .int a1, .int a2, .int a3, .int a4, .int a5] (pIn wX D0 K0 h σ)) (va_Qi (fun r' u' => r' = r ∧ u' = u) (pOut wX D0 K0 h) (pA wX h)) 0 0 (pA wX h) := by
  refine p_metI (lv := [(0, .ref (h 0)), (1, .int a1), (2, .int a2), (3, .int a3), (4, .int a4), (5, .int a5)]) (by decide +kernel) rfl rfl (Nat.le_of_ble_eq_true rfl) rfl (fun X C hret => ?_)
  unfold fX4_copy at hf
  refine g_iload_n C 1 dX4_copy_0 rfl rfl ?_
  obtain ⟨r2, hc1, hf⟩ := g_bind hf
  refine g_callSi C (mX4_isRow l0 D0 K0 h σ a1 hc1) gX4_copy_X4_isRow rfl rfl rfl ddX4_isRow ⟨(Nat.le_of_ble_eq_true rfl), (Nat.le_of_ble_eq_true rfl)⟩ rfl rfl (Nat.le_of_ble_eq_true rfl) dX4_copy_1 ?_
  refine g_if_eq (tgt := 14) hf C dX4_copy_4 (by decide) (fun hf => ?_) (fun hf => ?_)
  · refine g_iconst C dX4_copy_14 ic_m1 ?_
    exact g_retiW hf hret dX4_copy_15
  · refine g_iload_n C 3 dX4_copy_7 rfl rfl ?_
    obtain ⟨r4, hc3, hf⟩ := g_bind hf
    refine g_callSi C (mX4_isRow l0 D0 K0 h σ a3 hc3) gX4_copy_X4_isRow rfl rfl rfl ddX4_isRow ⟨(Nat.le_of_ble_eq_true rfl), (Nat.le_of_ble_eq_true rfl)⟩ rfl rfl (Nat.le_of_ble_eq_true rfl) dX4_copy_8 ?_
    refine g_if_ne (tgt := 16) hf C dX4_copy_11 (by decide) (fun hf => ?_) (fun hf => ?_)
    · refine g_iload C 5 dX4_copy_16 rfl ?_
      refine g_if_ge (tgt := 27) hf C dX4_copy_18 (by decide) (fun hf => ?_) (fun hf => ?_)
      · refine g_aload_n C 0 dX4_copy_27 rfl rfl ?_
        refine g_getC (n := 5) C in_X4_copy_X4 (k := 1) lk_X4_copy_0 rfl (Nat.le_of_ble_eq_true rfl) rfl (Nat.le_of_ble_eq_true rfl) rfl dX4_copy_28 ?_
        refine g_iload_n C 1 dX4_copy_31 rfl rfl ?_
        refine g_iald hf C rfl (Nat.le_of_ble_eq_true rfl) dX4_copy_32 (fun hf => ?_)
        refine g_iconst C dX4_copy_33 ic_m1 ?_
        refine g_join (P := fun j => j = some (r, u) → G wX h X 47 [(0, .ref (h 0))] [] σ) hf (fun hf => ?_) (fun j5 hj5 hf => ?_)
        · refine g_aload_n C 0 dX4_copy_47 rfl rfl ?_
          refine g_iconst C dX4_copy_48 ic_1 ?_
          obtain ⟨r7, σ8, hc6, hf⟩ := g_pbind hf
          refine g_callVi C (mX4_find l0 D0 K0 h σ (1 : Int32) hc6) gX4_copy_X4_find rfl rfl rfl ddX4_find ⟨(Nat.le_of_ble_eq_true rfl), (Nat.le_of_ble_eq_true rfl)⟩ rfl (Nat.le_of_ble_eq_true rfl) rfl rfl rfl (Nat.le_of_ble_eq_true rfl) dX4_copy_49 ?_
          exact g_retiW hf hret dX4_copy_52
        · refine g_icmp_eq (tgt := 47) hf C dX4_copy_34 (by decide) (fun hf => ?_) (fun hf => ?_)
          · refine g_lv [0] rfl ?_
            exact hj5 hf
          · refine g_aload_n C 0 dX4_copy_37 rfl rfl ?_
            refine g_getC (n := 5) C in_X4_copy_X4 (k := 1) lk_X4_copy_0 rfl (Nat.le_of_ble_eq_true rfl) rfl (Nat.le_of_ble_eq_true rfl) rfl dX4_copy_38 ?_
            refine g_iload_n C 3 dX4_copy_41 rfl rfl ?_
            refine g_iald hf C rfl (Nat.le_of_ble_eq_true rfl) dX4_copy_42 (fun hf => ?_)
            refine g_iconst C dX4_copy_43 ic_m1 ?_
            refine g_icmp_ne (tgt := 53) hf C dX4_copy_44 (by decide) (fun hf => ?_) (fun hf => ?_)
            · refine g_aload_n C 0 dX4_copy_53 rfl rfl ?_
              refine g_getC (n := 5) C in_X4_copy_X4 (k := 1) lk_X4_copy_0 rfl (Nat.le_of_ble_eq_true rfl) rfl (Nat.le_of_ble_eq_true rfl) rfl dX4_copy_54 ?_
              refine g_iload_n C 1 dX4_copy_57 rfl rfl ?_
              refine g_iald hf C rfl (Nat.le_of_ble_eq_true rfl) dX4_copy_58 (fun hf => ?_)
              refine g_iload_n C 2 dX4_copy_59 rfl rfl ?_
              refine g_iload C 5 dX4_copy_60 rfl ?_
              obtain ⟨r10, hc9, hf⟩ := g_bind hf
              refine g_callSi C (mX4_hasPlaces l0 D0 K0 h σ (pI σ 5 (a1).toNatClampNeg) a2 a5 hc9) gX4_copy_X4_hasPlaces rfl rfl rfl ddX4_hasPlaces ⟨(Nat.le_of_ble_eq_true rfl), (Nat.le_of_ble_eq_true rfl)⟩ rfl rfl (Nat.le_of_ble_eq_true rfl) dX4_copy_62 ?_
              refine g_join (P := fun j => j = some (r, u) → G wX h X 84 [(0, .ref (h 0))] [] σ) hf (fun hf => ?_) (fun j11 hj11 hf => ?_)
              · refine g_aload_n C 0 dX4_copy_84 rfl rfl ?_
                refine g_iconst C dX4_copy_85 ic_2 ?_
                obtain ⟨r13, σ14, hc12, hf⟩ := g_pbind hf
                refine g_callVi C (mX4_find l0 D0 K0 h σ (2 : Int32) hc12) gX4_copy_X4_find rfl rfl rfl ddX4_find ⟨(Nat.le_of_ble_eq_true rfl), (Nat.le_of_ble_eq_true rfl)⟩ rfl (Nat.le_of_ble_eq_true rfl) rfl rfl rfl (Nat.le_of_ble_eq_true rfl) dX4_copy_86 ?_
                exact g_retiW hf hret dX4_copy_89
              · refine g_if_eq (tgt := 84) hf C dX4_copy_65 (by decide) (fun hf => ?_) (fun hf => ?_)
                · refine g_lv [0] rfl ?_
                  exact hj11 hf
                · refine g_aload_n C 0 dX4_copy_68 rfl rfl ?_
                  refine g_getC (n := 5) C in_X4_copy_X4 (k := 1) lk_X4_copy_0 rfl (Nat.le_of_ble_eq_true rfl) rfl (Nat.le_of_ble_eq_true rfl) rfl dX4_copy_69 ?_
                  refine g_iload_n C 3 dX4_copy_72 rfl rfl ?_
                  refine g_iald hf C rfl (Nat.le_of_ble_eq_true rfl) dX4_copy_73 (fun hf => ?_)
                  refine g_iload C 4 dX4_copy_74 rfl ?_
                  refine g_iload C 5 dX4_copy_76 rfl ?_
                  obtain ⟨r16, hc15, hf⟩ := g_bind hf
                  refine g_callSi C (mX4_hasPlaces l0 D0 K0 h σ (pI σ 5 (a3).toNatClampNeg) a4 a5 hc15) gX4_copy_X4_hasPlaces rfl rfl rfl ddX4_hasPlaces ⟨(Nat.le_of_ble_eq_true rfl), (Nat.le_of_ble_eq_true rfl)⟩ rfl rfl (Nat.le_of_ble_eq_true rfl) dX4_copy_78 ?_
                  refine g_if_ne (tgt := 90) hf C dX4_copy_81 (by decide) (fun hf => ?_) (fun hf => ?_)
                  · refine g_aload_n C 0 dX4_copy_90 rfl rfl ?_
                    refine g_getC (n := 4) C in_X4_copy_X4 (k := 0) lk_X4_copy_1 rfl (Nat.le_of_ble_eq_true rfl) rfl (Nat.le_of_ble_eq_true rfl) rfl dX4_copy_91 ?_
                    refine g_iload_n C 1 dX4_copy_94 rfl rfl ?_
                    refine g_aald hf C rfl (by decide) (Nat.le_of_ble_eq_true rfl) dX4_copy_95 (fun hp17 hf => ?_)
                    refine g_iload_n C 2 dX4_copy_96 rfl rfl ?_
                    refine g_aload_n C 0 dX4_copy_97 rfl rfl ?_
                    refine g_getC (n := 4) C in_X4_copy_X4 (k := 0) lk_X4_copy_1 rfl (Nat.le_of_ble_eq_true rfl) rfl (Nat.le_of_ble_eq_true rfl) rfl dX4_copy_98 ?_
                    refine g_iload_n C 3 dX4_copy_101 rfl rfl ?_
                    refine g_aald hf C rfl (by decide) (Nat.le_of_ble_eq_true rfl) dX4_copy_102 (fun hp18 hf => ?_)
                    refine g_iload C 4 dX4_copy_103 rfl ?_
                    refine g_iload C 5 dX4_copy_105 rfl ?_
                    refine g_copy hf C lk_X4_copy_2 lk_X4_copy_3 lk_X4_copy_4 lk_X4_copy_5 (sh_row _ (pin_lt hp17)).1 (sh_row _ (pin_lt hp17)).2 (sh_row _ (pin_lt hp18)).1 (sh_row _ (pin_lt hp18)).2 (Nat.le_of_ble_eq_true rfl) (Nat.le_of_ble_eq_true rfl) dX4_copy_107 (fun hf => ?_)
                    refine g_lets hf (fun σ19 hf => ?_)
                    refine g_iconst C dX4_copy_110 ic_1 ?_
                    exact g_retiW hf hret dX4_copy_111
                  · refine g_lv [0] rfl ?_
                    exact hj11 hf
            · refine g_lv [0] rfl ?_
              exact hj5 hf
      · refine g_aload_n C 0 dX4_copy_21 rfl rfl ?_
        refine g_iconst C dX4_copy_22 ic_5 ?_
        obtain ⟨r21, σ22, hc20, hf⟩ := g_pbind hf
        refine g_callVi C (mX4_find l0 D0 K0 h σ (5 : Int32) hc20) gX4_copy_X4_find rfl rfl rfl ddX4_find ⟨(Nat.le_of_ble_eq_true rfl), (Nat.le_of_ble_eq_true rfl)⟩ rfl (Nat.le_of_ble_eq_true rfl) rfl rfl rfl (Nat.le_of_ble_eq_true rfl) dX4_copy_23 ?_
        exact g_retiW hf hret dX4_copy_26
    · refine g_iconst C dX4_copy_14 ic_m1 ?_
      exact g_retiW hf hret dX4_copy_15
/-! X4_mean -/
theorem in_X4_mean_X4 : ∀ q ∈ u_ws RX4 TX4 13, q ∈ wsX4_mean := by decide +kernel
theorem lk_X4_mean_0 : Cond.fieldLink RX4 14 "EmptyHouse" "rowSizes" "[I" ∈ wsX4_mean := by decide +kernel
theorem lk_X4_mean_1 : Cond.fieldLink RX4 11 "EmptyHouse" "rows" "[[I" ∈ wsX4_mean := by decide +kernel
theorem lk_X4_mean_2 : Cond.fieldLink RX4 57 "EmptyHouse" "told" "I" ∈ wsX4_mean := by decide +kernel
theorem ddX4_mean : yX4_mean.cls = RX4 ∧ yX4_mean.cls ≠ "java/lang/invoke/MethodHandle" ∧ yX4_mean.cls ≠ "java/lang/invoke/VarHandle" ∧ (parseMethodDescriptor yX4_mean.desc).map (fun d => d.parameters.length) = some 1 := by decide +kernel
set_option maxHeartbeats 4000000 in
set_option maxRecDepth 100000 in
theorem lX4_mean_43_ok {h : Nat → Nat} {X : Cx} {l0 : Launch} {D0 : va_G} {K0 : Nat → ClassId} (σ : pS) (p1 : Int32) (p2 : Int32) {k68 : Int64 → Option (Int32 × pS)} {r : Int32} {u : pS} (C : Cok wX h X l0 ({ frames := 1, cells := 0, slots := 0, locals := 21 } : Room) D0 K0 cX4_mean 6 RX4 wsX4_mean) (hret : ∀ (pc : Nat) (lv' : List (Nat × Value)), decode cX4_mean pc = .ok (.ireturn, 1) → G wX h X pc lv' [.int r] u) (hk68 : ∀ (z3 : Int64), k68 z3 = some (r, u) → G wX h X 68 [(0, .ref (h 0)), (2, .int p2), (3, .long z3)] [] σ) : ∀ (F : Nat) (v3 : Int64) (v5 : Int32), lX4_mean_43 σ p1 p2 k68 F v3 v5 = some (r, u) → G wX h X 43 [(0, .ref (h 0)), (1, .int p1), (2, .int p2), (3, .long v3), (5, .int v5)] [] σ := by
  intro F
  induction F with
  | zero => intro v3 v5 hf; exact absurd hf (by simp [lX4_mean_43])
  | succ F ih =>
    intro v3 v5 hf
    rw [lX4_mean_43.eq_2] at hf
    refine g_iload C 4 dX4_mean_43 rfl ?_
    refine g_iload_n C 2 dX4_mean_45 rfl rfl ?_
    refine g_icmp_ge (tgt := 68) hf C dX4_mean_46 (by decide) (fun hf => ?_) (fun hf => ?_)
    · refine g_lv [0, 2, 3] rfl ?_
      exact hk68 v3 hf
    · refine g_lload_n C 3 dX4_mean_49 rfl rfl ?_
      refine g_aload_n C 0 dX4_mean_50 rfl rfl ?_
      refine g_getC (n := 4) C in_X4_mean_X4 (k := 0) lk_X4_mean_1 rfl (Nat.le_of_ble_eq_true rfl) rfl (Nat.le_of_ble_eq_true rfl) rfl dX4_mean_51 ?_
      refine g_iload_n C 1 dX4_mean_54 rfl rfl ?_
      refine g_aald hf C rfl (by decide) (Nat.le_of_ble_eq_true rfl) dX4_mean_55 (fun hp4 hf => ?_)
      refine g_iload C 4 dX4_mean_56 rfl ?_
      refine g_iald hf C (sh_row _ (pin_lt hp4)).1 (sh_row _ (pin_lt hp4)).2 dX4_mean_58 (fun hf => ?_)
      refine g_i2l C dX4_mean_59 ?_
      refine g_ladd C dX4_mean_60 ?_
      refine g_letl hf (fun x5 hf => ?_)
      refine g_lstore_n C [1, 2, 3, 0, 4] dX4_mean_61 rfl (Nat.le_of_ble_eq_true rfl) rfl ?_
      refine g_iinc C 4 [1, 2, 3, 4, 0] dX4_mean_62 rfl ic_1 (Nat.le_of_ble_eq_true rfl) rfl ?_
      refine g_goto (tgt := 43) C dX4_mean_65 (by decide) ?_
      exact ih x5 (v5 + (1 : Int32)) hf
set_option maxHeartbeats 4000000 in
set_option maxRecDepth 100000 in
theorem mX4_mean (l0 : Launch) (D0 : va_G) (K0 : Nat → ClassId) (h : Nat → Nat) (σ : pS) (a1 : Int32) {r : Int32} {u : pS} (hf : fX4_mean σ a1 = some (r, u)) : Met l0 yX4_mean wsX4_mean ({ frames := 1, cells := 0, slots := 0, locals := 21 } : Room) (va_Pc [.ref (h 0), .int a1] (pIn wX D0 K0 h σ)) (va_Qi (fun r' u' => r' = r ∧ u' = u) (pOut wX D0 K0 h) (pA wX h)) 0 0 (pA wX h) := by
  refine p_metI (lv := [(0, .ref (h 0)), (1, .int a1)]) (by decide +kernel) rfl rfl (Nat.le_of_ble_eq_true rfl) rfl (fun X C hret => ?_)
  unfold fX4_mean at hf
  refine g_iload_n C 1 dX4_mean_0 rfl rfl ?_
  obtain ⟨r2, hc1, hf⟩ := g_bind hf
  refine g_callSi C (mX4_isRow l0 D0 K0 h σ a1 hc1) gX4_mean_X4_isRow rfl rfl rfl ddX4_isRow ⟨(Nat.le_of_ble_eq_true rfl), (Nat.le_of_ble_eq_true rfl)⟩ rfl rfl (Nat.le_of_ble_eq_true rfl) dX4_mean_1 ?_
  refine g_if_ne (tgt := 9) hf C dX4_mean_4 (by decide) (fun hf => ?_) (fun hf => ?_)
  · refine g_aload_n C 0 dX4_mean_9 rfl rfl ?_
    refine g_getC (n := 5) C in_X4_mean_X4 (k := 1) lk_X4_mean_0 rfl (Nat.le_of_ble_eq_true rfl) rfl (Nat.le_of_ble_eq_true rfl) rfl dX4_mean_10 ?_
    refine g_iload_n C 1 dX4_mean_13 rfl rfl ?_
    refine g_iald hf C rfl (Nat.le_of_ble_eq_true rfl) dX4_mean_14 (fun hf => ?_)
    refine g_leti hf (fun x3 hf => ?_)
    refine g_istore_n C [1, 2, 0] dX4_mean_15 rfl (Nat.le_of_ble_eq_true rfl) rfl ?_
    refine g_iload_n C 2 dX4_mean_16 rfl rfl ?_
    refine g_iconst C dX4_mean_17 ic_m1 ?_
    refine g_icmp_ne (tgt := 27) hf C dX4_mean_18 (by decide) (fun hf => ?_) (fun hf => ?_)
    · refine g_iload_n C 2 dX4_mean_27 rfl rfl ?_
      refine g_iconst C dX4_mean_28 ic_1 ?_
      refine g_icmp_ge (tgt := 38) hf C dX4_mean_29 (by decide) (fun hf => ?_) (fun hf => ?_)
      · refine g_lconst C dX4_mean_38 lc_0 ?_
        refine g_lstore_n C [1, 2, 3, 0] dX4_mean_39 rfl (Nat.le_of_ble_eq_true rfl) rfl ?_
        refine g_iconst C dX4_mean_40 ic_0 ?_
        refine g_istore C [1, 2, 3, 4, 0] dX4_mean_41 (Nat.le_of_ble_eq_true rfl) rfl ?_
        refine lX4_mean_43_ok σ a1 x3 C hret (fun y6 hf => ?_) FU (0 : Int64) (0 : Int32) hf
        refine g_aload_n C 0 dX4_mean_68 rfl rfl ?_
        refine g_lload_n C 2 dX4_mean_69 rfl rfl ?_
        refine g_iload_n C 1 dX4_mean_70 rfl rfl ?_
        refine g_i2l C dX4_mean_71 ?_
        refine g_ldiv hf C dX4_mean_72 (fun hf => ?_)
        refine g_l2i C dX4_mean_73 ?_
        refine g_putI C in_X4_mean_X4 (k := 9) lk_X4_mean_2 rfl (Nat.le_of_ble_eq_true rfl) rfl (Nat.le_of_ble_eq_true rfl) tyX4 tyX4_ok nmX4 rfl rfl rfl rfl dX4_mean_74 ?_
        refine g_lets hf (fun σ7 hf => ?_)
        refine g_iconst C dX4_mean_77 ic_1 ?_
        exact g_retiW hf hret dX4_mean_78
      · refine g_aload_n C 0 dX4_mean_32 rfl rfl ?_
        refine g_iconst C dX4_mean_33 ic_4 ?_
        obtain ⟨r9, σ10, hc8, hf⟩ := g_pbind hf
        refine g_callVi C (mX4_find l0 D0 K0 h σ (4 : Int32) hc8) gX4_mean_X4_find rfl rfl rfl ddX4_find ⟨(Nat.le_of_ble_eq_true rfl), (Nat.le_of_ble_eq_true rfl)⟩ rfl (Nat.le_of_ble_eq_true rfl) rfl rfl rfl (Nat.le_of_ble_eq_true rfl) dX4_mean_34 ?_
        exact g_retiW hf hret dX4_mean_37
    · refine g_aload_n C 0 dX4_mean_21 rfl rfl ?_
      refine g_iconst C dX4_mean_22 ic_1 ?_
      obtain ⟨r12, σ13, hc11, hf⟩ := g_pbind hf
      refine g_callVi C (mX4_find l0 D0 K0 h σ (1 : Int32) hc11) gX4_mean_X4_find rfl rfl rfl ddX4_find ⟨(Nat.le_of_ble_eq_true rfl), (Nat.le_of_ble_eq_true rfl)⟩ rfl (Nat.le_of_ble_eq_true rfl) rfl rfl rfl (Nat.le_of_ble_eq_true rfl) dX4_mean_23 ?_
      exact g_retiW hf hret dX4_mean_26
  · refine g_iconst C dX4_mean_7 ic_m1 ?_
    exact g_retiW hf hret dX4_mean_8
/-! X4_isText -/
theorem ddX4_isText : yX4_isText.cls ≠ "java/lang/invoke/MethodHandle" ∧ yX4_isText.cls ≠ "java/lang/invoke/VarHandle" ∧ (parseMethodDescriptor yX4_isText.desc).map (fun d => d.parameters.length) = some 1 := by decide +kernel
set_option maxHeartbeats 4000000 in
set_option maxRecDepth 100000 in
theorem mX4_isText (l0 : Launch) (D0 : va_G) (K0 : Nat → ClassId) (h : Nat → Nat) (σ : pS) (a1 : Int32) {r : Int32} (hf : fX4_isText a1 = some r) : Met l0 yX4_isText wsX4_isText ({ frames := 0, cells := 0, slots := 0, locals := 0 } : Room) (va_Pc [.int a1] (pIn wX D0 K0 h σ)) (va_Qi (fun r' u' => r' = r ∧ u' = σ) (pOut wX D0 K0 h) (pA wX h)) 0 0 (pA wX h) := by
  refine p_metZ (lv := [(0, .int a1)]) (by decide +kernel) rfl rfl (Nat.le_of_ble_eq_true rfl) rfl (fun X C hret => ?_)
  unfold fX4_isText at hf
  refine g_iload_n C 0 dX4_isText_0 rfl rfl ?_
  refine g_if_lt (tgt := 13) hf C dX4_isText_1 (by decide) (fun hf => ?_) (fun hf => ?_)
  · refine g_iconst C dX4_isText_13 ic_0 ?_
    exact g_retz hf (by decide) hret dX4_isText_14
  · refine g_iload_n C 0 dX4_isText_4 rfl rfl ?_
    refine g_iconst C dX4_isText_5 ic_4 ?_
    refine g_icmp_ge (tgt := 13) hf C dX4_isText_6 (by decide) (fun hf => ?_) (fun hf => ?_)
    · refine g_iconst C dX4_isText_13 ic_0 ?_
      exact g_retz hf (by decide) hret dX4_isText_14
    · refine g_iconst C dX4_isText_9 ic_1 ?_
      refine g_goto (tgt := 14) C dX4_isText_10 (by decide) ?_
      exact g_retz hf (by decide) hret dX4_isText_14
/-! X4_text -/
theorem in_X4_text_X4 : ∀ q ∈ u_ws RX4 TX4 13, q ∈ wsX4_text := by decide +kernel
theorem lk_X4_text_0 : Cond.fieldLink RX4 20 "EmptyHouse" "texts" "[[B" ∈ wsX4_text := by decide +kernel
theorem lk_X4_text_1 : Cond.fieldLink RX4 23 "EmptyHouse" "textSizes" "[I" ∈ wsX4_text := by decide +kernel
theorem ddX4_text : yX4_text.cls = RX4 ∧ yX4_text.cls ≠ "java/lang/invoke/MethodHandle" ∧ yX4_text.cls ≠ "java/lang/invoke/VarHandle" ∧ (parseMethodDescriptor yX4_text.desc).map (fun d => d.parameters.length) = some 2 := by decide +kernel
set_option maxHeartbeats 4000000 in
set_option maxRecDepth 100000 in
theorem mX4_text (l0 : Launch) (D0 : va_G) (K0 : Nat → ClassId) (h : Nat → Nat) (σ : pS) (a1 : Int32) (a2 : Int32) {r : Int32} {u : pS} (hf : fX4_text σ a1 a2 = some (r, u)) : Met l0 yX4_text wsX4_text ({ frames := 1, cells := 0, slots := 0, locals := 23 } : Room) (va_Pc [.ref (h 0), .int a1, .int a2] (pIn wX D0 K0 h σ)) (va_Qi (fun r' u' => r' = r ∧ u' = u) (pOut wX D0 K0 h) (pA wX h)) 0 0 (pA wX h) := by
  refine p_metI (lv := [(0, .ref (h 0)), (1, .int a1), (2, .int a2)]) (by decide +kernel) rfl rfl (Nat.le_of_ble_eq_true rfl) rfl (fun X C hret => ?_)
  unfold fX4_text at hf
  refine g_iload_n C 1 dX4_text_0 rfl rfl ?_
  obtain ⟨r2, hc1, hf⟩ := g_bind hf
  refine g_callSi C (mX4_isText l0 D0 K0 h σ a1 hc1) gX4_text_X4_isText rfl rfl rfl ddX4_isText ⟨(Nat.le_of_ble_eq_true rfl), (Nat.le_of_ble_eq_true rfl)⟩ rfl rfl (Nat.le_of_ble_eq_true rfl) dX4_text_1 ?_
  refine g_if_eq (tgt := 13) hf C dX4_text_4 (by decide) (fun hf => ?_) (fun hf => ?_)
  · refine g_iconst C dX4_text_13 ic_m1 ?_
    exact g_retiW hf hret dX4_text_14
  · refine g_iload_n C 2 dX4_text_7 rfl rfl ?_
    refine g_bipush C dX4_text_8 bp_120 ?_
    refine g_icmp_le (tgt := 15) hf C dX4_text_10 (by decide) (fun hf => ?_) (fun hf => ?_)
    · refine g_iload_n C 2 dX4_text_15 rfl rfl ?_
      refine g_if_ge (tgt := 25) hf C dX4_text_16 (by decide) (fun hf => ?_) (fun hf => ?_)
      · refine g_aload_n C 0 dX4_text_25 rfl rfl ?_
        refine g_getC (n := 6) C in_X4_text_X4 (k := 2) lk_X4_text_0 rfl (Nat.le_of_ble_eq_true rfl) rfl (Nat.le_of_ble_eq_true rfl) rfl dX4_text_26 ?_
        refine g_iload_n C 1 dX4_text_29 rfl rfl ?_
        refine g_aald hf C rfl (by decide) (Nat.le_of_ble_eq_true rfl) dX4_text_30 (fun hp3 hf => ?_)
        refine g_bipush C dX4_text_31 bp_32 ?_
        obtain ⟨r5, σ6, hc4, hf⟩ := g_pbind hf
        refine g_callSv C (mJ7_fill_031fb l0 D0 K0 h σ (26 + (a1).toNatClampNeg) (32 : Int32) hc4) gX4_text_J7_fill_031fb rfl rfl rfl ddJ7_fill_031fb ⟨(Nat.le_of_ble_eq_true rfl), (Nat.le_of_ble_eq_true rfl)⟩ rfl rfl (Nat.le_of_ble_eq_true rfl) dX4_text_33 ?_
        refine g_aload_n C 0 dX4_text_36 rfl rfl ?_
        refine g_getC (n := 7) C in_X4_text_X4 (k := 3) lk_X4_text_1 rfl (Nat.le_of_ble_eq_true rfl) rfl (Nat.le_of_ble_eq_true rfl) rfl dX4_text_37 ?_
        refine g_iload_n C 1 dX4_text_40 rfl rfl ?_
        refine g_iload_n C 2 dX4_text_41 rfl rfl ?_
        refine g_iast hf C rfl (Nat.le_of_ble_eq_true rfl) dX4_text_42 (fun hf => ?_)
        refine g_lets hf (fun σ7 hf => ?_)
        refine g_iload_n C 2 dX4_text_43 rfl rfl ?_
        exact g_retiW hf hret dX4_text_44
      · refine g_aload_n C 0 dX4_text_19 rfl rfl ?_
        refine g_iconst C dX4_text_20 ic_5 ?_
        obtain ⟨r9, σ10, hc8, hf⟩ := g_pbind hf
        refine g_callVi C (mX4_find l0 D0 K0 h σ (5 : Int32) hc8) gX4_text_X4_find rfl rfl rfl ddX4_find ⟨(Nat.le_of_ble_eq_true rfl), (Nat.le_of_ble_eq_true rfl)⟩ rfl (Nat.le_of_ble_eq_true rfl) rfl rfl rfl (Nat.le_of_ble_eq_true rfl) dX4_text_21 ?_
        exact g_retiW hf hret dX4_text_24
    · refine g_iconst C dX4_text_13 ic_m1 ?_
      exact g_retiW hf hret dX4_text_14
/-! X4_put -/
theorem in_X4_put_X4 : ∀ q ∈ u_ws RX4 TX4 13, q ∈ wsX4_put := by decide +kernel
theorem lk_X4_put_0 : Cond.fieldLink RX4 23 "EmptyHouse" "textSizes" "[I" ∈ wsX4_put := by decide +kernel
theorem lk_X4_put_1 : Cond.fieldLink RX4 20 "EmptyHouse" "texts" "[[B" ∈ wsX4_put := by decide +kernel
theorem ddX4_put : yX4_put.cls = RX4 ∧ yX4_put.cls ≠ "java/lang/invoke/MethodHandle" ∧ yX4_put.cls ≠ "java/lang/invoke/VarHandle" ∧ (parseMethodDescriptor yX4_put.desc).map (fun d => d.parameters.length) = some 3 := by decide +kernel
set_option maxHeartbeats 4000000 in
set_option maxRecDepth 100000 in
theorem mX4_put (l0 : Launch) (D0 : va_G) (K0 : Nat → ClassId) (h : Nat → Nat) (σ : pS) (a1 : Int32) (a2 : Int32) (a3 : Int32) {r : Int32} {u : pS} (hf : fX4_put σ a1 a2 a3 = some (r, u)) : Met l0 yX4_put wsX4_put ({ frames := 1, cells := 0, slots := 0, locals := 22 } : Room) (va_Pc [.ref (h 0), .int a1, .int a2, .int a3] (pIn wX D0 K0 h σ)) (va_Qi (fun r' u' => r' = r ∧ u' = u) (pOut wX D0 K0 h) (pA wX h)) 0 0 (pA wX h) := by
  refine p_metI (lv := [(0, .ref (h 0)), (1, .int a1), (2, .int a2), (3, .int a3)]) (by decide +kernel) rfl rfl (Nat.le_of_ble_eq_true rfl) rfl (fun X C hret => ?_)
  unfold fX4_put at hf
  refine g_iload_n C 1 dX4_put_0 rfl rfl ?_
  obtain ⟨r2, hc1, hf⟩ := g_bind hf
  refine g_callSi C (mX4_isText l0 D0 K0 h σ a1 hc1) gX4_put_X4_isText rfl rfl rfl ddX4_isText ⟨(Nat.le_of_ble_eq_true rfl), (Nat.le_of_ble_eq_true rfl)⟩ rfl rfl (Nat.le_of_ble_eq_true rfl) dX4_put_1 ?_
  refine g_if_ne (tgt := 9) hf C dX4_put_4 (by decide) (fun hf => ?_) (fun hf => ?_)
  · refine g_aload_n C 0 dX4_put_9 rfl rfl ?_
    refine g_getC (n := 7) C in_X4_put_X4 (k := 3) lk_X4_put_0 rfl (Nat.le_of_ble_eq_true rfl) rfl (Nat.le_of_ble_eq_true rfl) rfl dX4_put_10 ?_
    refine g_iload_n C 1 dX4_put_13 rfl rfl ?_
    refine g_iald hf C rfl (Nat.le_of_ble_eq_true rfl) dX4_put_14 (fun hf => ?_)
    refine g_iconst C dX4_put_15 ic_m1 ?_
    refine g_icmp_ne (tgt := 25) hf C dX4_put_16 (by decide) (fun hf => ?_) (fun hf => ?_)
    · refine g_aload_n C 0 dX4_put_25 rfl rfl ?_
      refine g_getC (n := 7) C in_X4_put_X4 (k := 3) lk_X4_put_0 rfl (Nat.le_of_ble_eq_true rfl) rfl (Nat.le_of_ble_eq_true rfl) rfl dX4_put_26 ?_
      refine g_iload_n C 1 dX4_put_29 rfl rfl ?_
      refine g_iald hf C rfl (Nat.le_of_ble_eq_true rfl) dX4_put_30 (fun hf => ?_)
      refine g_iload_n C 2 dX4_put_31 rfl rfl ?_
      refine g_iconst C dX4_put_32 ic_1 ?_
      obtain ⟨r4, hc3, hf⟩ := g_bind hf
      refine g_callSi C (mX4_hasPlaces l0 D0 K0 h σ (pI σ 7 (a1).toNatClampNeg) a2 (1 : Int32) hc3) gX4_put_X4_hasPlaces rfl rfl rfl ddX4_hasPlaces ⟨(Nat.le_of_ble_eq_true rfl), (Nat.le_of_ble_eq_true rfl)⟩ rfl rfl (Nat.le_of_ble_eq_true rfl) dX4_put_33 ?_
      refine g_if_ne (tgt := 45) hf C dX4_put_36 (by decide) (fun hf => ?_) (fun hf => ?_)
      · refine g_aload_n C 0 dX4_put_45 rfl rfl ?_
        refine g_getC (n := 6) C in_X4_put_X4 (k := 2) lk_X4_put_1 rfl (Nat.le_of_ble_eq_true rfl) rfl (Nat.le_of_ble_eq_true rfl) rfl dX4_put_46 ?_
        refine g_iload_n C 1 dX4_put_49 rfl rfl ?_
        refine g_aald hf C rfl (by decide) (Nat.le_of_ble_eq_true rfl) dX4_put_50 (fun hp5 hf => ?_)
        refine g_iload_n C 2 dX4_put_51 rfl rfl ?_
        refine g_bald hf C (sh_text _ (pin_lt hp5)).1 (sh_text _ (pin_lt hp5)).2 dX4_put_52 (fun hf => ?_)
        refine g_leti hf (fun x6 hf => ?_)
        refine g_istore C [1, 2, 3, 4, 0] dX4_put_53 (Nat.le_of_ble_eq_true rfl) rfl ?_
        refine g_aload_n C 0 dX4_put_55 rfl rfl ?_
        refine g_getC (n := 6) C in_X4_put_X4 (k := 2) lk_X4_put_1 rfl (Nat.le_of_ble_eq_true rfl) rfl (Nat.le_of_ble_eq_true rfl) rfl dX4_put_56 ?_
        refine g_iload_n C 1 dX4_put_59 rfl rfl ?_
        refine g_aald hf C rfl (by decide) (Nat.le_of_ble_eq_true rfl) dX4_put_60 (fun hp7 hf => ?_)
        refine g_iload_n C 2 dX4_put_61 rfl rfl ?_
        refine g_iload_n C 3 dX4_put_62 rfl rfl ?_
        refine g_i2b C dX4_put_63 ?_
        refine g_bast hf C (sh_text _ (pin_lt hp7)).1 (sh_text _ (pin_lt hp7)).2 dX4_put_64 (fun hf => ?_)
        refine g_lets hf (fun σ8 hf => ?_)
        refine g_iload C 4 dX4_put_65 rfl ?_
        refine g_sipush C dX4_put_67 sp_1000 ?_
        refine g_iadd C dX4_put_70 ?_
        exact g_retiW hf hret dX4_put_71
      · refine g_aload_n C 0 dX4_put_39 rfl rfl ?_
        refine g_iconst C dX4_put_40 ic_2 ?_
        obtain ⟨r10, σ11, hc9, hf⟩ := g_pbind hf
        refine g_callVi C (mX4_find l0 D0 K0 h σ (2 : Int32) hc9) gX4_put_X4_find rfl rfl rfl ddX4_find ⟨(Nat.le_of_ble_eq_true rfl), (Nat.le_of_ble_eq_true rfl)⟩ rfl (Nat.le_of_ble_eq_true rfl) rfl rfl rfl (Nat.le_of_ble_eq_true rfl) dX4_put_41 ?_
        exact g_retiW hf hret dX4_put_44
    · refine g_aload_n C 0 dX4_put_19 rfl rfl ?_
      refine g_iconst C dX4_put_20 ic_1 ?_
      obtain ⟨r13, σ14, hc12, hf⟩ := g_pbind hf
      refine g_callVi C (mX4_find l0 D0 K0 h σ (1 : Int32) hc12) gX4_put_X4_find rfl rfl rfl ddX4_find ⟨(Nat.le_of_ble_eq_true rfl), (Nat.le_of_ble_eq_true rfl)⟩ rfl (Nat.le_of_ble_eq_true rfl) rfl rfl rfl (Nat.le_of_ble_eq_true rfl) dX4_put_21 ?_
      exact g_retiW hf hret dX4_put_24
  · refine g_iconst C dX4_put_7 ic_m1 ?_
    exact g_retiW hf hret dX4_put_8
/-! X4_fault -/
theorem in_X4_fault_X4 : ∀ q ∈ u_ws RX4 TX4 13, q ∈ wsX4_fault := by decide +kernel
theorem lk_X4_fault_0 : Cond.fieldLink RX4 23 "EmptyHouse" "textSizes" "[I" ∈ wsX4_fault := by decide +kernel
theorem lk_X4_fault_1 : Cond.fieldLink RX4 29 "EmptyHouse" "reader" "LEmptyHouse$Reader;" ∈ wsX4_fault := by decide +kernel
theorem lk_X4_fault_2 : Cond.fieldLink RX4 20 "EmptyHouse" "texts" "[[B" ∈ wsX4_fault := by decide +kernel
theorem ddX4_fault : yX4_fault.cls = RX4 ∧ yX4_fault.cls ≠ "java/lang/invoke/MethodHandle" ∧ yX4_fault.cls ≠ "java/lang/invoke/VarHandle" ∧ (parseMethodDescriptor yX4_fault.desc).map (fun d => d.parameters.length) = some 1 := by decide +kernel
set_option maxHeartbeats 4000000 in
set_option maxRecDepth 100000 in
theorem mX4_fault (l0 : Launch) (D0 : va_G) (K0 : Nat → ClassId) (h : Nat → Nat) (σ : pS) (a1 : Int32) {r : Int32} {u : pS} (hf : fX4_fault σ a1 = some (r, u)) : Met l0 yX4_fault wsX4_fault ({ frames := 6, cells := 0, slots := 0, locals := 135 } : Room) (va_Pc [.ref (h 0), .int a1] (pIn wX D0 K0 h σ)) (va_Qi (fun r' u' => r' = r ∧ u' = u) (pOut wX D0 K0 h) (pA wX h)) 0 0 (pA wX h) := by
  refine p_metI (lv := [(0, .ref (h 0)), (1, .int a1)]) (by decide +kernel) rfl rfl (Nat.le_of_ble_eq_true rfl) rfl (fun X C hret => ?_)
  unfold fX4_fault at hf
  refine g_iload_n C 1 dX4_fault_0 rfl rfl ?_
  obtain ⟨r2, hc1, hf⟩ := g_bind hf
  refine g_callSi C (mX4_isText l0 D0 K0 h σ a1 hc1) gX4_fault_X4_isText rfl rfl rfl ddX4_isText ⟨(Nat.le_of_ble_eq_true rfl), (Nat.le_of_ble_eq_true rfl)⟩ rfl rfl (Nat.le_of_ble_eq_true rfl) dX4_fault_1 ?_
  refine g_if_ne (tgt := 9) hf C dX4_fault_4 (by decide) (fun hf => ?_) (fun hf => ?_)
  · refine g_aload_n C 0 dX4_fault_9 rfl rfl ?_
    refine g_getC (n := 7) C in_X4_fault_X4 (k := 3) lk_X4_fault_0 rfl (Nat.le_of_ble_eq_true rfl) rfl (Nat.le_of_ble_eq_true rfl) rfl dX4_fault_10 ?_
    refine g_iload_n C 1 dX4_fault_13 rfl rfl ?_
    refine g_iald hf C rfl (Nat.le_of_ble_eq_true rfl) dX4_fault_14 (fun hf => ?_)
    refine g_iconst C dX4_fault_15 ic_m1 ?_
    refine g_icmp_ne (tgt := 25) hf C dX4_fault_16 (by decide) (fun hf => ?_) (fun hf => ?_)
    · refine g_aload_n C 0 dX4_fault_25 rfl rfl ?_
      refine g_getC (n := 1) C in_X4_fault_X4 (k := 4) lk_X4_fault_1 rfl (Nat.le_of_ble_eq_true rfl) rfl (Nat.le_of_ble_eq_true rfl) rfl dX4_fault_26 ?_
      refine g_aload_n C 0 dX4_fault_29 rfl rfl ?_
      refine g_getC (n := 6) C in_X4_fault_X4 (k := 2) lk_X4_fault_2 rfl (Nat.le_of_ble_eq_true rfl) rfl (Nat.le_of_ble_eq_true rfl) rfl dX4_fault_30 ?_
      refine g_iload_n C 1 dX4_fault_33 rfl rfl ?_
      refine g_aald hf C rfl (by decide) (Nat.le_of_ble_eq_true rfl) dX4_fault_34 (fun hp3 hf => ?_)
      refine g_aload_n C 0 dX4_fault_35 rfl rfl ?_
      refine g_getC (n := 7) C in_X4_fault_X4 (k := 3) lk_X4_fault_0 rfl (Nat.le_of_ble_eq_true rfl) rfl (Nat.le_of_ble_eq_true rfl) rfl dX4_fault_36 ?_
      refine g_iload_n C 1 dX4_fault_39 rfl rfl ?_
      refine g_iald hf C rfl (Nat.le_of_ble_eq_true rfl) dX4_fault_40 (fun hf => ?_)
      obtain ⟨r5, σ6, hc4, hf⟩ := g_pbind hf
      refine g_callVi C (mX1_read l0 D0 K0 h σ (26 + (a1).toNatClampNeg) (pI σ 7 (a1).toNatClampNeg) hc4) gX4_fault_X1_read rfl rfl rfl ddX1_read ⟨(Nat.le_of_ble_eq_true rfl), (Nat.le_of_ble_eq_true rfl)⟩ rfl (Nat.le_of_ble_eq_true rfl) rfl rfl rfl (Nat.le_of_ble_eq_true rfl) dX4_fault_41 ?_
      exact g_retiW hf hret dX4_fault_44
    · refine g_aload_n C 0 dX4_fault_19 rfl rfl ?_
      refine g_iconst C dX4_fault_20 ic_1 ?_
      obtain ⟨r8, σ9, hc7, hf⟩ := g_pbind hf
      refine g_callVi C (mX4_find l0 D0 K0 h σ (1 : Int32) hc7) gX4_fault_X4_find rfl rfl rfl ddX4_find ⟨(Nat.le_of_ble_eq_true rfl), (Nat.le_of_ble_eq_true rfl)⟩ rfl (Nat.le_of_ble_eq_true rfl) rfl rfl rfl (Nat.le_of_ble_eq_true rfl) dX4_fault_21 ?_
      exact g_retiW hf hret dX4_fault_24
  · refine g_iconst C dX4_fault_7 ic_m1 ?_
    exact g_retiW hf hret dX4_fault_8
/-! X4_village -/
theorem in_X4_village_X3 : ∀ q ∈ u_ws RX3 TX3 11, q ∈ wsX4_village := by decide +kernel
theorem in_X4_village_X4 : ∀ q ∈ u_ws RX4 TX4 13, q ∈ wsX4_village := by decide +kernel
theorem lk_X4_village_0 : Cond.fieldLink RX4 23 "EmptyHouse" "textSizes" "[I" ∈ wsX4_village := by decide +kernel
theorem lk_X4_village_1 : Cond.fieldLink RX4 29 "EmptyHouse" "reader" "LEmptyHouse$Reader;" ∈ wsX4_village := by decide +kernel
theorem lk_X4_village_2 : Cond.fieldLink RX4 20 "EmptyHouse" "texts" "[[B" ∈ wsX4_village := by decide +kernel
theorem lk_X4_village_3 : Cond.fieldLink RX4 53 "EmptyHouse" "live" "LEmptyHouse$Village;" ∈ wsX4_village := by decide +kernel
theorem lk_X4_village_4 : Cond.fieldLink RX4 36 "EmptyHouse" "books" "LEmptyHouse$Books;" ∈ wsX4_village := by decide +kernel
theorem lk_X4_village_5 : Cond.fieldLink RX4 43 "EmptyHouse" "rounds" "LEmptyHouse$Rounds;" ∈ wsX4_village := by decide +kernel
theorem lk_X4_village_6 : Cond.fieldLink RX4 124 "EmptyHouse$Village" "people" "I" ∈ wsX4_village := by decide +kernel
theorem ddX4_village : yX4_village.cls = RX4 ∧ yX4_village.cls ≠ "java/lang/invoke/MethodHandle" ∧ yX4_village.cls ≠ "java/lang/invoke/VarHandle" ∧ (parseMethodDescriptor yX4_village.desc).map (fun d => d.parameters.length) = some 1 := by decide +kernel
set_option maxHeartbeats 4000000 in
set_option maxRecDepth 100000 in
theorem mX4_village (l0 : Launch) (D0 : va_G) (K0 : Nat → ClassId) (h : Nat → Nat) (σ : pS) (a1 : Int32) {r : Int32} {u : pS} (hf : fX4_village σ a1 = some (r, u)) : Met l0 yX4_village wsX4_village ({ frames := 6, cells := 0, slots := 0, locals := 135 } : Room) (va_Pc [.ref (h 0), .int a1] (pIn wX D0 K0 h σ)) (va_Qi (fun r' u' => r' = r ∧ u' = u) (pOut wX D0 K0 h) (pA wX h)) 0 0 (pA wX h) := by
  refine p_metI (lv := [(0, .ref (h 0)), (1, .int a1)]) (by decide +kernel) rfl rfl (Nat.le_of_ble_eq_true rfl) rfl (fun X C hret => ?_)
  unfold fX4_village at hf
  refine g_iload_n C 1 dX4_village_0 rfl rfl ?_
  obtain ⟨r2, hc1, hf⟩ := g_bind hf
  refine g_callSi C (mX4_isText l0 D0 K0 h σ a1 hc1) gX4_village_X4_isText rfl rfl rfl ddX4_isText ⟨(Nat.le_of_ble_eq_true rfl), (Nat.le_of_ble_eq_true rfl)⟩ rfl rfl (Nat.le_of_ble_eq_true rfl) dX4_village_1 ?_
  refine g_if_ne (tgt := 9) hf C dX4_village_4 (by decide) (fun hf => ?_) (fun hf => ?_)
  · refine g_aload_n C 0 dX4_village_9 rfl rfl ?_
    refine g_getC (n := 7) C in_X4_village_X4 (k := 3) lk_X4_village_0 rfl (Nat.le_of_ble_eq_true rfl) rfl (Nat.le_of_ble_eq_true rfl) rfl dX4_village_10 ?_
    refine g_iload_n C 1 dX4_village_13 rfl rfl ?_
    refine g_iald hf C rfl (Nat.le_of_ble_eq_true rfl) dX4_village_14 (fun hf => ?_)
    refine g_iconst C dX4_village_15 ic_m1 ?_
    refine g_icmp_ne (tgt := 25) hf C dX4_village_16 (by decide) (fun hf => ?_) (fun hf => ?_)
    · refine g_aload_n C 0 dX4_village_25 rfl rfl ?_
      refine g_getC (n := 1) C in_X4_village_X4 (k := 4) lk_X4_village_1 rfl (Nat.le_of_ble_eq_true rfl) rfl (Nat.le_of_ble_eq_true rfl) rfl dX4_village_26 ?_
      refine g_aload_n C 0 dX4_village_29 rfl rfl ?_
      refine g_getC (n := 6) C in_X4_village_X4 (k := 2) lk_X4_village_2 rfl (Nat.le_of_ble_eq_true rfl) rfl (Nat.le_of_ble_eq_true rfl) rfl dX4_village_30 ?_
      refine g_iload_n C 1 dX4_village_33 rfl rfl ?_
      refine g_aald hf C rfl (by decide) (Nat.le_of_ble_eq_true rfl) dX4_village_34 (fun hp3 hf => ?_)
      refine g_aload_n C 0 dX4_village_35 rfl rfl ?_
      refine g_getC (n := 7) C in_X4_village_X4 (k := 3) lk_X4_village_0 rfl (Nat.le_of_ble_eq_true rfl) rfl (Nat.le_of_ble_eq_true rfl) rfl dX4_village_36 ?_
      refine g_iload_n C 1 dX4_village_39 rfl rfl ?_
      refine g_iald hf C rfl (Nat.le_of_ble_eq_true rfl) dX4_village_40 (fun hf => ?_)
      obtain ⟨r5, σ6, hc4, hf⟩ := g_pbind hf
      refine g_callVi C (mX1_read l0 D0 K0 h σ (26 + (a1).toNatClampNeg) (pI σ 7 (a1).toNatClampNeg) hc4) gX4_village_X1_read rfl rfl rfl ddX1_read ⟨(Nat.le_of_ble_eq_true rfl), (Nat.le_of_ble_eq_true rfl)⟩ rfl (Nat.le_of_ble_eq_true rfl) rfl rfl rfl (Nat.le_of_ble_eq_true rfl) dX4_village_41 ?_
      refine g_bipush C dX4_village_44 bp_m9 ?_
      refine g_icmp_eq (tgt := 52) hf C dX4_village_46 (by decide) (fun hf => ?_) (fun hf => ?_)
      · refine g_aload_n C 0 dX4_village_52 rfl rfl ?_
        refine g_aload_n C 0 dX4_village_53 rfl rfl ?_
        refine g_getC (n := 1) C in_X4_village_X4 (k := 4) lk_X4_village_1 rfl (Nat.le_of_ble_eq_true rfl) rfl (Nat.le_of_ble_eq_true rfl) rfl dX4_village_54 ?_
        refine g_aload_n C 0 dX4_village_57 rfl rfl ?_
        refine g_getR C in_X4_village_X4 (k := 8) lk_X4_village_3 rfl (Nat.le_of_ble_eq_true rfl) rfl (Nat.le_of_ble_eq_true rfl) rfl dX4_village_58 ?_
        obtain ⟨r8, σ9, hc7, hf⟩ := g_pbind hf
        refine g_callVr C (mX1_handOver l0 D0 K0 h σ6 (pR σ6 0 8) hc7) gX4_village_X1_handOver rfl rfl rfl ddX1_handOver ⟨(Nat.le_of_ble_eq_true rfl), (Nat.le_of_ble_eq_true rfl)⟩ rfl (Nat.le_of_ble_eq_true rfl) rfl rfl rfl (Nat.le_of_ble_eq_true rfl) dX4_village_61 ?_
        refine g_putR C in_X4_village_X4 (k := 8) lk_X4_village_3 rfl (Nat.le_of_ble_eq_true rfl) rfl (Nat.le_of_ble_eq_true rfl) tyX4 tyX4_ok nmX4 rfl rfl rfl rfl dX4_village_64 ?_
        refine g_lets hf (fun σ10 hf => ?_)
        refine g_aload_n C 0 dX4_village_67 rfl rfl ?_
        refine g_getC (n := 2) C in_X4_village_X4 (k := 5) lk_X4_village_4 rfl (Nat.le_of_ble_eq_true rfl) rfl (Nat.le_of_ble_eq_true rfl) rfl dX4_village_68 ?_
        obtain ⟨r12, σ13, hc11, hf⟩ := g_pbind hf
        refine g_callVv C (mX0_forget l0 D0 K0 h σ10 hc11) gX4_village_X0_forget rfl rfl rfl ddX0_forget ⟨(Nat.le_of_ble_eq_true rfl), (Nat.le_of_ble_eq_true rfl)⟩ rfl (Nat.le_of_ble_eq_true rfl) rfl rfl rfl (Nat.le_of_ble_eq_true rfl) dX4_village_71 ?_
        refine g_aload_n C 0 dX4_village_74 rfl rfl ?_
        refine g_getC (n := 3) C in_X4_village_X4 (k := 6) lk_X4_village_5 rfl (Nat.le_of_ble_eq_true rfl) rfl (Nat.le_of_ble_eq_true rfl) rfl dX4_village_75 ?_
        refine g_aload_n C 0 dX4_village_78 rfl rfl ?_
        refine g_getR C in_X4_village_X4 (k := 8) lk_X4_village_3 rfl (Nat.le_of_ble_eq_true rfl) rfl (Nat.le_of_ble_eq_true rfl) rfl dX4_village_79 ?_
        obtain ⟨r15, σ16, hc14, hf⟩ := g_pbind hf
        refine g_callVv C (mX2_learn l0 D0 K0 h σ13 (pR σ13 0 8) hc14) gX4_village_X2_learn rfl rfl rfl ddX2_learn ⟨(Nat.le_of_ble_eq_true rfl), (Nat.le_of_ble_eq_true rfl)⟩ rfl (Nat.le_of_ble_eq_true rfl) rfl rfl rfl (Nat.le_of_ble_eq_true rfl) dX4_village_82 ?_
        refine g_aload_n C 0 dX4_village_85 rfl rfl ?_
        refine g_getR C in_X4_village_X4 (k := 8) lk_X4_village_3 rfl (Nat.le_of_ble_eq_true rfl) rfl (Nat.le_of_ble_eq_true rfl) rfl dX4_village_86 ?_
        obtain ⟨hg17, hf⟩ := g_guard hf
        refine g_getI C in_X4_village_X3 (k := 0) lk_X4_village_6 rfl (Nat.le_of_ble_eq_true rfl) (shV hg17) (ltV hg17) rfl dX4_village_89 ?_
        exact g_retiW hf hret dX4_village_92
      · refine g_bipush C dX4_village_49 bp_m4 ?_
        exact g_retiW hf hret dX4_village_51
    · refine g_aload_n C 0 dX4_village_19 rfl rfl ?_
      refine g_iconst C dX4_village_20 ic_1 ?_
      obtain ⟨r19, σ20, hc18, hf⟩ := g_pbind hf
      refine g_callVi C (mX4_find l0 D0 K0 h σ (1 : Int32) hc18) gX4_village_X4_find rfl rfl rfl ddX4_find ⟨(Nat.le_of_ble_eq_true rfl), (Nat.le_of_ble_eq_true rfl)⟩ rfl (Nat.le_of_ble_eq_true rfl) rfl rfl rfl (Nat.le_of_ble_eq_true rfl) dX4_village_21 ?_
      exact g_retiW hf hret dX4_village_24
  · refine g_iconst C dX4_village_7 ic_m1 ?_
    exact g_retiW hf hret dX4_village_8
/-! X4_one -/
theorem in_X4_one_X4 : ∀ q ∈ u_ws RX4 TX4 13, q ∈ wsX4_one := by decide +kernel
theorem lk_X4_one_0 : Cond.fieldLink RX4 53 "EmptyHouse" "live" "LEmptyHouse$Village;" ∈ wsX4_one := by decide +kernel
theorem lk_X4_one_1 : Cond.fieldLink RX4 57 "EmptyHouse" "told" "I" ∈ wsX4_one := by decide +kernel
theorem ddX4_one : yX4_one.cls = RX4 ∧ yX4_one.cls ≠ "java/lang/invoke/MethodHandle" ∧ yX4_one.cls ≠ "java/lang/invoke/VarHandle" ∧ (parseMethodDescriptor yX4_one.desc).map (fun d => d.parameters.length) = some 2 := by decide +kernel
set_option maxHeartbeats 4000000 in
set_option maxRecDepth 100000 in
theorem mX4_one (l0 : Launch) (D0 : va_G) (K0 : Nat → ClassId) (h : Nat → Nat) (σ : pS) (a1 : Int32) (a2 : Int32) {r : Int32} {u : pS} (hf : fX4_one σ a1 a2 = some (r, u)) : Met l0 yX4_one wsX4_one ({ frames := 1, cells := 0, slots := 0, locals := 22 } : Room) (va_Pc [.ref (h 0), .int a1, .int a2] (pIn wX D0 K0 h σ)) (va_Qi (fun r' u' => r' = r ∧ u' = u) (pOut wX D0 K0 h) (pA wX h)) 0 0 (pA wX h) := by
  refine p_metI (lv := [(0, .ref (h 0)), (1, .int a1), (2, .int a2)]) (by decide +kernel) rfl rfl (Nat.le_of_ble_eq_true rfl) rfl (fun X C hret => ?_)
  unfold fX4_one at hf
  refine g_aload_n C 0 dX4_one_0 rfl rfl ?_
  refine g_getR C in_X4_one_X4 (k := 8) lk_X4_one_0 rfl (Nat.le_of_ble_eq_true rfl) rfl (Nat.le_of_ble_eq_true rfl) rfl dX4_one_1 ?_
  refine g_iload_n C 1 dX4_one_4 rfl rfl ?_
  obtain ⟨hg1, hf⟩ := g_guard hf
  obtain ⟨r3, hc2, hf⟩ := g_bind hf
  refine g_callVi C (mX3_isPerson l0 D0 K0 h σ (pR σ 0 8) a1 hc2) gX4_one_X3_isPerson rfl rfl rfl ddX3_isPerson ⟨(Nat.le_of_ble_eq_true rfl), (Nat.le_of_ble_eq_true rfl)⟩ (shV hg1) (ltV hg1) rfl rfl rfl (Nat.le_of_ble_eq_true rfl) dX4_one_5 ?_
  refine g_if_eq (tgt := 20) hf C dX4_one_8 (by decide) (fun hf => ?_) (fun hf => ?_)
  · refine g_iconst C dX4_one_20 ic_m1 ?_
    exact g_retiW hf hret dX4_one_21
  · refine g_iload_n C 2 dX4_one_11 rfl rfl ?_
    refine g_if_lt (tgt := 20) hf C dX4_one_12 (by decide) (fun hf => ?_) (fun hf => ?_)
    · refine g_iconst C dX4_one_20 ic_m1 ?_
      exact g_retiW hf hret dX4_one_21
    · refine g_iload_n C 2 dX4_one_15 rfl rfl ?_
      refine g_iconst C dX4_one_16 ic_3 ?_
      refine g_icmp_le (tgt := 22) hf C dX4_one_17 (by decide) (fun hf => ?_) (fun hf => ?_)
      · refine g_aload_n C 0 dX4_one_22 rfl rfl ?_
        refine g_aload_n C 0 dX4_one_23 rfl rfl ?_
        refine g_getR C in_X4_one_X4 (k := 8) lk_X4_one_0 rfl (Nat.le_of_ble_eq_true rfl) rfl (Nat.le_of_ble_eq_true rfl) rfl dX4_one_24 ?_
        refine g_iload_n C 1 dX4_one_27 rfl rfl ?_
        refine g_iload_n C 2 dX4_one_28 rfl rfl ?_
        obtain ⟨r5, hc4, hf⟩ := g_bind hf
        refine g_callVi C (mX3_ofPerson l0 D0 K0 h σ (pR σ 0 8) a1 a2 hc4) gX4_one_X3_ofPerson rfl rfl rfl ddX3_ofPerson ⟨(Nat.le_of_ble_eq_true rfl), (Nat.le_of_ble_eq_true rfl)⟩ (shV hg1) (ltV hg1) rfl rfl rfl (Nat.le_of_ble_eq_true rfl) dX4_one_29 ?_
        refine g_putI C in_X4_one_X4 (k := 9) lk_X4_one_1 rfl (Nat.le_of_ble_eq_true rfl) rfl (Nat.le_of_ble_eq_true rfl) tyX4 tyX4_ok nmX4 rfl rfl rfl rfl dX4_one_32 ?_
        refine g_lets hf (fun σ6 hf => ?_)
        refine g_iconst C dX4_one_35 ic_1 ?_
        exact g_retiW hf hret dX4_one_36
      · refine g_iconst C dX4_one_20 ic_m1 ?_
        exact g_retiW hf hret dX4_one_21
/-! X4_mark -/
theorem in_X4_mark_X4 : ∀ q ∈ u_ws RX4 TX4 13, q ∈ wsX4_mark := by decide +kernel
theorem lk_X4_mark_0 : Cond.fieldLink RX4 53 "EmptyHouse" "live" "LEmptyHouse$Village;" ∈ wsX4_mark := by decide +kernel
theorem ddX4_mark : yX4_mark.cls = RX4 ∧ yX4_mark.cls ≠ "java/lang/invoke/MethodHandle" ∧ yX4_mark.cls ≠ "java/lang/invoke/VarHandle" ∧ (parseMethodDescriptor yX4_mark.desc).map (fun d => d.parameters.length) = some 2 := by decide +kernel
set_option maxHeartbeats 4000000 in
set_option maxRecDepth 100000 in
theorem mX4_mark (l0 : Launch) (D0 : va_G) (K0 : Nat → ClassId) (h : Nat → Nat) (σ : pS) (a1 : Int32) (a2 : Int32) {r : Int32} {u : pS} (hf : fX4_mark σ a1 a2 = some (r, u)) : Met l0 yX4_mark wsX4_mark ({ frames := 3, cells := 0, slots := 0, locals := 64 } : Room) (va_Pc [.ref (h 0), .int a1, .int a2] (pIn wX D0 K0 h σ)) (va_Qi (fun r' u' => r' = r ∧ u' = u) (pOut wX D0 K0 h) (pA wX h)) 0 0 (pA wX h) := by
  refine p_metI (lv := [(0, .ref (h 0)), (1, .int a1), (2, .int a2)]) (by decide +kernel) rfl rfl (Nat.le_of_ble_eq_true rfl) rfl (fun X C hret => ?_)
  unfold fX4_mark at hf
  refine g_aload_n C 0 dX4_mark_0 rfl rfl ?_
  refine g_getR C in_X4_mark_X4 (k := 8) lk_X4_mark_0 rfl (Nat.le_of_ble_eq_true rfl) rfl (Nat.le_of_ble_eq_true rfl) rfl dX4_mark_1 ?_
  refine g_iload_n C 1 dX4_mark_4 rfl rfl ?_
  obtain ⟨hg1, hf⟩ := g_guard hf
  obtain ⟨r3, hc2, hf⟩ := g_bind hf
  refine g_callVi C (mX3_isPerson l0 D0 K0 h σ (pR σ 0 8) a1 hc2) gX4_mark_X3_isPerson rfl rfl rfl ddX3_isPerson ⟨(Nat.le_of_ble_eq_true rfl), (Nat.le_of_ble_eq_true rfl)⟩ (shV hg1) (ltV hg1) rfl rfl rfl (Nat.le_of_ble_eq_true rfl) dX4_mark_5 ?_
  refine g_if_eq (tgt := 20) hf C dX4_mark_8 (by decide) (fun hf => ?_) (fun hf => ?_)
  · refine g_iconst C dX4_mark_20 ic_m1 ?_
    exact g_retiW hf hret dX4_mark_21
  · refine g_iload_n C 2 dX4_mark_11 rfl rfl ?_
    refine g_if_le (tgt := 20) hf C dX4_mark_12 (by decide) (fun hf => ?_) (fun hf => ?_)
    · refine g_iconst C dX4_mark_20 ic_m1 ?_
      exact g_retiW hf hret dX4_mark_21
    · refine g_iload_n C 2 dX4_mark_15 rfl rfl ?_
      refine g_iconst C dX4_mark_16 ic_5 ?_
      refine g_icmp_le (tgt := 22) hf C dX4_mark_17 (by decide) (fun hf => ?_) (fun hf => ?_)
      · refine g_aload_n C 0 dX4_mark_22 rfl rfl ?_
        refine g_getR C in_X4_mark_X4 (k := 8) lk_X4_mark_0 rfl (Nat.le_of_ble_eq_true rfl) rfl (Nat.le_of_ble_eq_true rfl) rfl dX4_mark_23 ?_
        refine g_iload_n C 1 dX4_mark_26 rfl rfl ?_
        refine g_iload_n C 2 dX4_mark_27 rfl rfl ?_
        obtain ⟨r5, hc4, hf⟩ := g_bind hf
        refine g_callVi C (mX3_isOfKind l0 D0 K0 h σ (pR σ 0 8) a1 a2 hc4) gX4_mark_X3_isOfKind rfl rfl rfl ddX3_isOfKind ⟨(Nat.le_of_ble_eq_true rfl), (Nat.le_of_ble_eq_true rfl)⟩ (shV hg1) (ltV hg1) rfl rfl rfl (Nat.le_of_ble_eq_true rfl) dX4_mark_28 ?_
        refine g_if_ne (tgt := 40) hf C dX4_mark_31 (by decide) (fun hf => ?_) (fun hf => ?_)
        · refine g_aload_n C 0 dX4_mark_40 rfl rfl ?_
          refine g_getR C in_X4_mark_X4 (k := 8) lk_X4_mark_0 rfl (Nat.le_of_ble_eq_true rfl) rfl (Nat.le_of_ble_eq_true rfl) rfl dX4_mark_41 ?_
          refine g_iload_n C 1 dX4_mark_44 rfl rfl ?_
          refine g_iload_n C 2 dX4_mark_45 rfl rfl ?_
          obtain ⟨r7, hc6, hf⟩ := g_bind hf
          refine g_callVi C (mX3_houseTells l0 D0 K0 h σ (pR σ 0 8) a1 a2 hc6) gX4_mark_X3_houseTells rfl rfl rfl ddX3_houseTells ⟨(Nat.le_of_ble_eq_true rfl), (Nat.le_of_ble_eq_true rfl)⟩ (shV hg1) (ltV hg1) rfl rfl rfl (Nat.le_of_ble_eq_true rfl) dX4_mark_46 ?_
          exact g_retiW hf hret dX4_mark_49
        · refine g_aload_n C 0 dX4_mark_34 rfl rfl ?_
          refine g_iconst C dX4_mark_35 ic_3 ?_
          obtain ⟨r9, σ10, hc8, hf⟩ := g_pbind hf
          refine g_callVi C (mX4_find l0 D0 K0 h σ (3 : Int32) hc8) gX4_mark_X4_find rfl rfl rfl ddX4_find ⟨(Nat.le_of_ble_eq_true rfl), (Nat.le_of_ble_eq_true rfl)⟩ rfl (Nat.le_of_ble_eq_true rfl) rfl rfl rfl (Nat.le_of_ble_eq_true rfl) dX4_mark_36 ?_
          exact g_retiW hf hret dX4_mark_39
      · refine g_iconst C dX4_mark_20 ic_m1 ?_
        exact g_retiW hf hret dX4_mark_21
/-! X4_ofDebt -/
theorem in_X4_ofDebt_X0 : ∀ q ∈ u_ws RX0 TX0 3, q ∈ wsX4_ofDebt := by decide +kernel
theorem in_X4_ofDebt_X3 : ∀ q ∈ u_ws RX3 TX3 11, q ∈ wsX4_ofDebt := by decide +kernel
theorem in_X4_ofDebt_X4 : ∀ q ∈ u_ws RX4 TX4 13, q ∈ wsX4_ofDebt := by decide +kernel
theorem lk_X4_ofDebt_0 : Cond.fieldLink RX4 53 "EmptyHouse" "live" "LEmptyHouse$Village;" ∈ wsX4_ofDebt := by decide +kernel
theorem lk_X4_ofDebt_1 : Cond.fieldLink RX4 268 "EmptyHouse$Village" "debtor" "[I" ∈ wsX4_ofDebt := by decide +kernel
theorem lk_X4_ofDebt_2 : Cond.fieldLink RX4 331 "EmptyHouse$Village" "creditor" "[I" ∈ wsX4_ofDebt := by decide +kernel
theorem lk_X4_ofDebt_3 : Cond.fieldLink RX4 265 "EmptyHouse$Village" "value" "[I" ∈ wsX4_ofDebt := by decide +kernel
theorem lk_X4_ofDebt_4 : Cond.fieldLink RX4 337 "EmptyHouse$Village" "interest" "[I" ∈ wsX4_ofDebt := by decide +kernel
theorem lk_X4_ofDebt_5 : Cond.fieldLink RX4 36 "EmptyHouse" "books" "LEmptyHouse$Books;" ∈ wsX4_ofDebt := by decide +kernel
theorem lk_X4_ofDebt_6 : Cond.fieldLink RX4 280 "EmptyHouse$Books" "paidIn" "[I" ∈ wsX4_ofDebt := by decide +kernel
theorem ddX4_ofDebt : yX4_ofDebt.cls = RX4 ∧ yX4_ofDebt.cls ≠ "java/lang/invoke/MethodHandle" ∧ yX4_ofDebt.cls ≠ "java/lang/invoke/VarHandle" ∧ (parseMethodDescriptor yX4_ofDebt.desc).map (fun d => d.parameters.length) = some 2 := by decide +kernel
set_option maxHeartbeats 4000000 in
set_option maxRecDepth 100000 in
theorem mX4_ofDebt (l0 : Launch) (D0 : va_G) (K0 : Nat → ClassId) (h : Nat → Nat) (σ : pS) (a1 : Int32) (a2 : Int32) {r : Int32} (hf : fX4_ofDebt σ a1 a2 = some r) : Met l0 yX4_ofDebt wsX4_ofDebt ({ frames := 0, cells := 0, slots := 0, locals := 0 } : Room) (va_Pc [.ref (h 0), .int a1, .int a2] (pIn wX D0 K0 h σ)) (va_Qi (fun r' u' => r' = r ∧ u' = σ) (pOut wX D0 K0 h) (pA wX h)) 0 0 (pA wX h) := by
  refine p_metI (lv := [(0, .ref (h 0)), (1, .int a1), (2, .int a2)]) (by decide +kernel) rfl rfl (Nat.le_of_ble_eq_true rfl) rfl (fun X C hret => ?_)
  unfold fX4_ofDebt at hf
  refine g_iload_n C 2 dX4_ofDebt_0 rfl rfl ?_
  refine g_swc hf (fun hx2 hf => ?_) (fun hn3 hf => ?_)
  · refine g_swin (tgt := 32) hx2 C dX4_ofDebt_1 (by decide) (by decide) rfl (by decide) ?_
    refine g_aload_n C 0 dX4_ofDebt_32 rfl rfl ?_
    refine g_getR C in_X4_ofDebt_X4 (k := 8) lk_X4_ofDebt_0 rfl (Nat.le_of_ble_eq_true rfl) rfl (Nat.le_of_ble_eq_true rfl) rfl dX4_ofDebt_33 ?_
    obtain ⟨hg1, hf⟩ := g_guard hf
    refine g_getC (n := (pR σ 0 8) + 5) C in_X4_ofDebt_X3 (k := 7) lk_X4_ofDebt_1 rfl (Nat.le_of_ble_eq_true rfl) (shV hg1) (ltV hg1) rfl dX4_ofDebt_36 ?_
    refine g_iload_n C 1 dX4_ofDebt_39 rfl rfl ?_
    refine g_iald hf C (shV5 hg1).1 (shV5 hg1).2 dX4_ofDebt_40 (fun hf => ?_)
    exact g_reti hf hret dX4_ofDebt_41
  · refine g_swc hf (fun hx5 hf => ?_) (fun hn6 hf => ?_)
    · refine g_swin (tgt := 42) hx5 C dX4_ofDebt_1 (by decide) (by decide) rfl (by decide) ?_
      refine g_aload_n C 0 dX4_ofDebt_42 rfl rfl ?_
      refine g_getR C in_X4_ofDebt_X4 (k := 8) lk_X4_ofDebt_0 rfl (Nat.le_of_ble_eq_true rfl) rfl (Nat.le_of_ble_eq_true rfl) rfl dX4_ofDebt_43 ?_
      obtain ⟨hg4, hf⟩ := g_guard hf
      refine g_getC (n := (pR σ 0 8) + 6) C in_X4_ofDebt_X3 (k := 8) lk_X4_ofDebt_2 rfl (Nat.le_of_ble_eq_true rfl) (shV hg4) (ltV hg4) rfl dX4_ofDebt_46 ?_
      refine g_iload_n C 1 dX4_ofDebt_49 rfl rfl ?_
      refine g_iald hf C (shV6 hg4).1 (shV6 hg4).2 dX4_ofDebt_50 (fun hf => ?_)
      exact g_reti hf hret dX4_ofDebt_51
    · refine g_swc hf (fun hx8 hf => ?_) (fun hn9 hf => ?_)
      · refine g_swin (tgt := 52) hx8 C dX4_ofDebt_1 (by decide) (by decide) rfl (by decide) ?_
        refine g_aload_n C 0 dX4_ofDebt_52 rfl rfl ?_
        refine g_getR C in_X4_ofDebt_X4 (k := 8) lk_X4_ofDebt_0 rfl (Nat.le_of_ble_eq_true rfl) rfl (Nat.le_of_ble_eq_true rfl) rfl dX4_ofDebt_53 ?_
        obtain ⟨hg7, hf⟩ := g_guard hf
        refine g_getC (n := (pR σ 0 8) + 7) C in_X4_ofDebt_X3 (k := 9) lk_X4_ofDebt_3 rfl (Nat.le_of_ble_eq_true rfl) (shV hg7) (ltV hg7) rfl dX4_ofDebt_56 ?_
        refine g_iload_n C 1 dX4_ofDebt_59 rfl rfl ?_
        refine g_iald hf C (shV7 hg7).1 (shV7 hg7).2 dX4_ofDebt_60 (fun hf => ?_)
        exact g_reti hf hret dX4_ofDebt_61
      · refine g_swc hf (fun hx11 hf => ?_) (fun hn12 hf => ?_)
        · refine g_swin (tgt := 62) hx11 C dX4_ofDebt_1 (by decide) (by decide) rfl (by decide) ?_
          refine g_aload_n C 0 dX4_ofDebt_62 rfl rfl ?_
          refine g_getR C in_X4_ofDebt_X4 (k := 8) lk_X4_ofDebt_0 rfl (Nat.le_of_ble_eq_true rfl) rfl (Nat.le_of_ble_eq_true rfl) rfl dX4_ofDebt_63 ?_
          obtain ⟨hg10, hf⟩ := g_guard hf
          refine g_getC (n := (pR σ 0 8) + 8) C in_X4_ofDebt_X3 (k := 10) lk_X4_ofDebt_4 rfl (Nat.le_of_ble_eq_true rfl) (shV hg10) (ltV hg10) rfl dX4_ofDebt_66 ?_
          refine g_iload_n C 1 dX4_ofDebt_69 rfl rfl ?_
          refine g_iald hf C (shV8 hg10).1 (shV8 hg10).2 dX4_ofDebt_70 (fun hf => ?_)
          exact g_reti hf hret dX4_ofDebt_71
        · refine g_swout (tgt := 72) C dX4_ofDebt_1 (by have := lv_neT (a := 0) hn3 (by decide); have := lv_neT (a := 1) hn6 (by decide); have := lv_neT (a := 2) hn9 (by decide); have := lv_neT (a := 3) hn12 (by decide); omega) (by decide) ?_
          refine g_aload_n C 0 dX4_ofDebt_72 rfl rfl ?_
          refine g_getC (n := 2) C in_X4_ofDebt_X4 (k := 5) lk_X4_ofDebt_5 rfl (Nat.le_of_ble_eq_true rfl) rfl (Nat.le_of_ble_eq_true rfl) rfl dX4_ofDebt_73 ?_
          refine g_getC (n := 9) C in_X4_ofDebt_X0 (k := 0) lk_X4_ofDebt_6 rfl (Nat.le_of_ble_eq_true rfl) rfl (Nat.le_of_ble_eq_true rfl) rfl dX4_ofDebt_76 ?_
          refine g_iload_n C 1 dX4_ofDebt_79 rfl rfl ?_
          refine g_iald hf C rfl (Nat.le_of_ble_eq_true rfl) dX4_ofDebt_80 (fun hf => ?_)
          exact g_reti hf hret dX4_ofDebt_81
/-! X4_debt -/
theorem in_X4_debt_X4 : ∀ q ∈ u_ws RX4 TX4 13, q ∈ wsX4_debt := by decide +kernel
theorem lk_X4_debt_0 : Cond.fieldLink RX4 53 "EmptyHouse" "live" "LEmptyHouse$Village;" ∈ wsX4_debt := by decide +kernel
theorem lk_X4_debt_1 : Cond.fieldLink RX4 57 "EmptyHouse" "told" "I" ∈ wsX4_debt := by decide +kernel
theorem ddX4_debt : yX4_debt.cls = RX4 ∧ yX4_debt.cls ≠ "java/lang/invoke/MethodHandle" ∧ yX4_debt.cls ≠ "java/lang/invoke/VarHandle" ∧ (parseMethodDescriptor yX4_debt.desc).map (fun d => d.parameters.length) = some 2 := by decide +kernel
set_option maxHeartbeats 4000000 in
set_option maxRecDepth 100000 in
theorem mX4_debt (l0 : Launch) (D0 : va_G) (K0 : Nat → ClassId) (h : Nat → Nat) (σ : pS) (a1 : Int32) (a2 : Int32) {r : Int32} {u : pS} (hf : fX4_debt σ a1 a2 = some (r, u)) : Met l0 yX4_debt wsX4_debt ({ frames := 1, cells := 0, slots := 0, locals := 22 } : Room) (va_Pc [.ref (h 0), .int a1, .int a2] (pIn wX D0 K0 h σ)) (va_Qi (fun r' u' => r' = r ∧ u' = u) (pOut wX D0 K0 h) (pA wX h)) 0 0 (pA wX h) := by
  refine p_metI (lv := [(0, .ref (h 0)), (1, .int a1), (2, .int a2)]) (by decide +kernel) rfl rfl (Nat.le_of_ble_eq_true rfl) rfl (fun X C hret => ?_)
  unfold fX4_debt at hf
  refine g_aload_n C 0 dX4_debt_0 rfl rfl ?_
  refine g_getR C in_X4_debt_X4 (k := 8) lk_X4_debt_0 rfl (Nat.le_of_ble_eq_true rfl) rfl (Nat.le_of_ble_eq_true rfl) rfl dX4_debt_1 ?_
  refine g_iload_n C 1 dX4_debt_4 rfl rfl ?_
  obtain ⟨hg1, hf⟩ := g_guard hf
  obtain ⟨r3, hc2, hf⟩ := g_bind hf
  refine g_callVi C (mX3_isDebt l0 D0 K0 h σ (pR σ 0 8) a1 hc2) gX4_debt_X3_isDebt rfl rfl rfl ddX3_isDebt ⟨(Nat.le_of_ble_eq_true rfl), (Nat.le_of_ble_eq_true rfl)⟩ (shV hg1) (ltV hg1) rfl rfl rfl (Nat.le_of_ble_eq_true rfl) dX4_debt_5 ?_
  refine g_if_eq (tgt := 20) hf C dX4_debt_8 (by decide) (fun hf => ?_) (fun hf => ?_)
  · refine g_iconst C dX4_debt_20 ic_m1 ?_
    exact g_retiW hf hret dX4_debt_21
  · refine g_iload_n C 2 dX4_debt_11 rfl rfl ?_
    refine g_if_lt (tgt := 20) hf C dX4_debt_12 (by decide) (fun hf => ?_) (fun hf => ?_)
    · refine g_iconst C dX4_debt_20 ic_m1 ?_
      exact g_retiW hf hret dX4_debt_21
    · refine g_iload_n C 2 dX4_debt_15 rfl rfl ?_
      refine g_iconst C dX4_debt_16 ic_4 ?_
      refine g_icmp_le (tgt := 22) hf C dX4_debt_17 (by decide) (fun hf => ?_) (fun hf => ?_)
      · refine g_aload_n C 0 dX4_debt_22 rfl rfl ?_
        refine g_aload_n C 0 dX4_debt_23 rfl rfl ?_
        refine g_iload_n C 1 dX4_debt_24 rfl rfl ?_
        refine g_iload_n C 2 dX4_debt_25 rfl rfl ?_
        obtain ⟨r5, hc4, hf⟩ := g_bind hf
        refine g_callVi C (mX4_ofDebt l0 D0 K0 h σ a1 a2 hc4) gX4_debt_X4_ofDebt rfl rfl rfl ddX4_ofDebt ⟨(Nat.le_of_ble_eq_true rfl), (Nat.le_of_ble_eq_true rfl)⟩ rfl (Nat.le_of_ble_eq_true rfl) rfl rfl rfl (Nat.le_of_ble_eq_true rfl) dX4_debt_26 ?_
        refine g_putI C in_X4_debt_X4 (k := 9) lk_X4_debt_1 rfl (Nat.le_of_ble_eq_true rfl) rfl (Nat.le_of_ble_eq_true rfl) tyX4 tyX4_ok nmX4 rfl rfl rfl rfl dX4_debt_29 ?_
        refine g_lets hf (fun σ6 hf => ?_)
        refine g_iconst C dX4_debt_32 ic_1 ?_
        exact g_retiW hf hret dX4_debt_33
      · refine g_iconst C dX4_debt_20 ic_m1 ?_
        exact g_retiW hf hret dX4_debt_21
/-! X4_law -/
theorem in_X4_law_X3 : ∀ q ∈ u_ws RX3 TX3 11, q ∈ wsX4_law := by decide +kernel
theorem in_X4_law_X4 : ∀ q ∈ u_ws RX4 TX4 13, q ∈ wsX4_law := by decide +kernel
theorem lk_X4_law_0 : Cond.fieldLink RX4 53 "EmptyHouse" "live" "LEmptyHouse$Village;" ∈ wsX4_law := by decide +kernel
theorem lk_X4_law_1 : Cond.fieldLink RX4 146 "EmptyHouse$Village" "law" "I" ∈ wsX4_law := by decide +kernel
theorem ddX4_law : yX4_law.cls = RX4 ∧ yX4_law.cls ≠ "java/lang/invoke/MethodHandle" ∧ yX4_law.cls ≠ "java/lang/invoke/VarHandle" ∧ (parseMethodDescriptor yX4_law.desc).map (fun d => d.parameters.length) = some 1 := by decide +kernel
set_option maxHeartbeats 4000000 in
set_option maxRecDepth 100000 in
theorem mX4_law (l0 : Launch) (D0 : va_G) (K0 : Nat → ClassId) (h : Nat → Nat) (σ : pS) (a1 : Int32) {r : Int32} {u : pS} (hf : fX4_law σ a1 = some (r, u)) : Met l0 yX4_law wsX4_law ({ frames := 0, cells := 0, slots := 0, locals := 0 } : Room) (va_Pc [.ref (h 0), .int a1] (pIn wX D0 K0 h σ)) (va_Qi (fun r' u' => r' = r ∧ u' = u) (pOut wX D0 K0 h) (pA wX h)) 0 0 (pA wX h) := by
  refine p_metI (lv := [(0, .ref (h 0)), (1, .int a1)]) (by decide +kernel) rfl rfl (Nat.le_of_ble_eq_true rfl) rfl (fun X C hret => ?_)
  unfold fX4_law at hf
  refine g_iload_n C 1 dX4_law_0 rfl rfl ?_
  refine g_if_lt (tgt := 9) hf C dX4_law_1 (by decide) (fun hf => ?_) (fun hf => ?_)
  · refine g_iconst C dX4_law_9 ic_m1 ?_
    exact g_retiW hf hret dX4_law_10
  · refine g_iload_n C 1 dX4_law_4 rfl rfl ?_
    refine g_iconst C dX4_law_5 ic_4 ?_
    refine g_icmp_lt (tgt := 11) hf C dX4_law_6 (by decide) (fun hf => ?_) (fun hf => ?_)
    · refine g_aload_n C 0 dX4_law_11 rfl rfl ?_
      refine g_getR C in_X4_law_X4 (k := 8) lk_X4_law_0 rfl (Nat.le_of_ble_eq_true rfl) rfl (Nat.le_of_ble_eq_true rfl) rfl dX4_law_12 ?_
      obtain ⟨hg1, hf⟩ := g_guard hf
      refine g_getI C in_X4_law_X3 (k := 2) lk_X4_law_1 rfl (Nat.le_of_ble_eq_true rfl) (shV hg1) (ltV hg1) rfl dX4_law_15 ?_
      refine g_leti hf (fun x2 hf => ?_)
      refine g_istore_n C [1, 2, 0] dX4_law_18 rfl (Nat.le_of_ble_eq_true rfl) rfl ?_
      refine g_aload_n C 0 dX4_law_19 rfl rfl ?_
      refine g_getR C in_X4_law_X4 (k := 8) lk_X4_law_0 rfl (Nat.le_of_ble_eq_true rfl) rfl (Nat.le_of_ble_eq_true rfl) rfl dX4_law_20 ?_
      refine g_iload_n C 1 dX4_law_23 rfl rfl ?_
      refine g_putI C in_X4_law_X3 (k := 2) lk_X4_law_1 rfl (Nat.le_of_ble_eq_true rfl) (shV hg1) (ltV hg1) tyX3 tyX3_ok nmX3 rfl rfl rfl rfl dX4_law_24 ?_
      refine g_lets hf (fun σ3 hf => ?_)
      refine g_iload_n C 2 dX4_law_27 rfl rfl ?_
      exact g_retiW hf hret dX4_law_28
    · refine g_iconst C dX4_law_9 ic_m1 ?_
      exact g_retiW hf hret dX4_law_10
/-! X4_cards -/
theorem in_X4_cards_X3 : ∀ q ∈ u_ws RX3 TX3 11, q ∈ wsX4_cards := by decide +kernel
theorem in_X4_cards_X4 : ∀ q ∈ u_ws RX4 TX4 13, q ∈ wsX4_cards := by decide +kernel
theorem lk_X4_cards_0 : Cond.fieldLink RX4 53 "EmptyHouse" "live" "LEmptyHouse$Village;" ∈ wsX4_cards := by decide +kernel
theorem lk_X4_cards_1 : Cond.fieldLink RX4 149 "EmptyHouse$Village" "cards" "[I" ∈ wsX4_cards := by decide +kernel
theorem ddX4_cards : yX4_cards.cls = RX4 ∧ yX4_cards.cls ≠ "java/lang/invoke/MethodHandle" ∧ yX4_cards.cls ≠ "java/lang/invoke/VarHandle" ∧ (parseMethodDescriptor yX4_cards.desc).map (fun d => d.parameters.length) = some 2 := by decide +kernel
set_option maxHeartbeats 4000000 in
set_option maxRecDepth 100000 in
theorem mX4_cards (l0 : Launch) (D0 : va_G) (K0 : Nat → ClassId) (h : Nat → Nat) (σ : pS) (a1 : Int32) (a2 : Int32) {r : Int32} {u : pS} (hf : fX4_cards σ a1 a2 = some (r, u)) : Met l0 yX4_cards wsX4_cards ({ frames := 1, cells := 0, slots := 0, locals := 21 } : Room) (va_Pc [.ref (h 0), .int a1, .int a2] (pIn wX D0 K0 h σ)) (va_Qi (fun r' u' => r' = r ∧ u' = u) (pOut wX D0 K0 h) (pA wX h)) 0 0 (pA wX h) := by
  refine p_metI (lv := [(0, .ref (h 0)), (1, .int a1), (2, .int a2)]) (by decide +kernel) rfl rfl (Nat.le_of_ble_eq_true rfl) rfl (fun X C hret => ?_)
  unfold fX4_cards at hf
  refine g_aload_n C 0 dX4_cards_0 rfl rfl ?_
  refine g_getR C in_X4_cards_X4 (k := 8) lk_X4_cards_0 rfl (Nat.le_of_ble_eq_true rfl) rfl (Nat.le_of_ble_eq_true rfl) rfl dX4_cards_1 ?_
  refine g_iload_n C 1 dX4_cards_4 rfl rfl ?_
  obtain ⟨hg1, hf⟩ := g_guard hf
  obtain ⟨r3, hc2, hf⟩ := g_bind hf
  refine g_callVi C (mX3_isPerson l0 D0 K0 h σ (pR σ 0 8) a1 hc2) gX4_cards_X3_isPerson rfl rfl rfl ddX3_isPerson ⟨(Nat.le_of_ble_eq_true rfl), (Nat.le_of_ble_eq_true rfl)⟩ (shV hg1) (ltV hg1) rfl rfl rfl (Nat.le_of_ble_eq_true rfl) dX4_cards_5 ?_
  refine g_if_eq (tgt := 21) hf C dX4_cards_8 (by decide) (fun hf => ?_) (fun hf => ?_)
  · refine g_iconst C dX4_cards_21 ic_m1 ?_
    exact g_retiW hf hret dX4_cards_22
  · refine g_iload_n C 2 dX4_cards_11 rfl rfl ?_
    refine g_if_lt (tgt := 21) hf C dX4_cards_12 (by decide) (fun hf => ?_) (fun hf => ?_)
    · refine g_iconst C dX4_cards_21 ic_m1 ?_
      exact g_retiW hf hret dX4_cards_22
    · refine g_iload_n C 2 dX4_cards_15 rfl rfl ?_
      refine g_bipush C dX4_cards_16 bp_99 ?_
      refine g_icmp_le (tgt := 23) hf C dX4_cards_18 (by decide) (fun hf => ?_) (fun hf => ?_)
      · refine g_aload_n C 0 dX4_cards_23 rfl rfl ?_
        refine g_getR C in_X4_cards_X4 (k := 8) lk_X4_cards_0 rfl (Nat.le_of_ble_eq_true rfl) rfl (Nat.le_of_ble_eq_true rfl) rfl dX4_cards_24 ?_
        refine g_getC (n := (pR σ 0 8) + 4) C in_X4_cards_X3 (k := 6) lk_X4_cards_1 rfl (Nat.le_of_ble_eq_true rfl) (shV hg1) (ltV hg1) rfl dX4_cards_27 ?_
        refine g_iload_n C 1 dX4_cards_30 rfl rfl ?_
        refine g_iald hf C (shV4 hg1).1 (shV4 hg1).2 dX4_cards_31 (fun hf => ?_)
        refine g_leti hf (fun x4 hf => ?_)
        refine g_istore_n C [1, 2, 3, 0] dX4_cards_32 rfl (Nat.le_of_ble_eq_true rfl) rfl ?_
        refine g_aload_n C 0 dX4_cards_33 rfl rfl ?_
        refine g_getR C in_X4_cards_X4 (k := 8) lk_X4_cards_0 rfl (Nat.le_of_ble_eq_true rfl) rfl (Nat.le_of_ble_eq_true rfl) rfl dX4_cards_34 ?_
        refine g_getC (n := (pR σ 0 8) + 4) C in_X4_cards_X3 (k := 6) lk_X4_cards_1 rfl (Nat.le_of_ble_eq_true rfl) (shV hg1) (ltV hg1) rfl dX4_cards_37 ?_
        refine g_iload_n C 1 dX4_cards_40 rfl rfl ?_
        refine g_iload_n C 2 dX4_cards_41 rfl rfl ?_
        refine g_iast hf C (shV4 hg1).1 (shV4 hg1).2 dX4_cards_42 (fun hf => ?_)
        refine g_lets hf (fun σ5 hf => ?_)
        refine g_iload_n C 3 dX4_cards_43 rfl rfl ?_
        exact g_retiW hf hret dX4_cards_44
      · refine g_iconst C dX4_cards_21 ic_m1 ?_
        exact g_retiW hf hret dX4_cards_22
/-! X4_isHour -/
theorem ddX4_isHour : yX4_isHour.cls ≠ "java/lang/invoke/MethodHandle" ∧ yX4_isHour.cls ≠ "java/lang/invoke/VarHandle" ∧ (parseMethodDescriptor yX4_isHour.desc).map (fun d => d.parameters.length) = some 1 := by decide +kernel
set_option maxHeartbeats 4000000 in
set_option maxRecDepth 100000 in
theorem mX4_isHour (l0 : Launch) (D0 : va_G) (K0 : Nat → ClassId) (h : Nat → Nat) (σ : pS) (a1 : Int32) {r : Int32} (hf : fX4_isHour a1 = some r) : Met l0 yX4_isHour wsX4_isHour ({ frames := 0, cells := 0, slots := 0, locals := 0 } : Room) (va_Pc [.int a1] (pIn wX D0 K0 h σ)) (va_Qi (fun r' u' => r' = r ∧ u' = σ) (pOut wX D0 K0 h) (pA wX h)) 0 0 (pA wX h) := by
  refine p_metZ (lv := [(0, .int a1)]) (by decide +kernel) rfl rfl (Nat.le_of_ble_eq_true rfl) rfl (fun X C hret => ?_)
  unfold fX4_isHour at hf
  refine g_iload_n C 0 dX4_isHour_0 rfl rfl ?_
  refine g_if_lt (tgt := 14) hf C dX4_isHour_1 (by decide) (fun hf => ?_) (fun hf => ?_)
  · refine g_iconst C dX4_isHour_14 ic_0 ?_
    exact g_retz hf (by decide) hret dX4_isHour_15
  · refine g_iload_n C 0 dX4_isHour_4 rfl rfl ?_
    refine g_bipush C dX4_isHour_5 bp_12 ?_
    refine g_icmp_ge (tgt := 14) hf C dX4_isHour_7 (by decide) (fun hf => ?_) (fun hf => ?_)
    · refine g_iconst C dX4_isHour_14 ic_0 ?_
      exact g_retz hf (by decide) hret dX4_isHour_15
    · refine g_iconst C dX4_isHour_10 ic_1 ?_
      refine g_goto (tgt := 15) C dX4_isHour_11 (by decide) ?_
      exact g_retz hf (by decide) hret dX4_isHour_15
/-! X4_habit -/
theorem in_X4_habit_X3 : ∀ q ∈ u_ws RX3 TX3 11, q ∈ wsX4_habit := by decide +kernel
theorem in_X4_habit_X4 : ∀ q ∈ u_ws RX4 TX4 13, q ∈ wsX4_habit := by decide +kernel
theorem lk_X4_habit_0 : Cond.fieldLink RX4 53 "EmptyHouse" "live" "LEmptyHouse$Village;" ∈ wsX4_habit := by decide +kernel
theorem lk_X4_habit_1 : Cond.fieldLink RX4 155 "EmptyHouse$Village" "out" "[I" ∈ wsX4_habit := by decide +kernel
theorem ddX4_habit : yX4_habit.cls = RX4 ∧ yX4_habit.cls ≠ "java/lang/invoke/MethodHandle" ∧ yX4_habit.cls ≠ "java/lang/invoke/VarHandle" ∧ (parseMethodDescriptor yX4_habit.desc).map (fun d => d.parameters.length) = some 3 := by decide +kernel
set_option maxHeartbeats 4000000 in
set_option maxRecDepth 100000 in
theorem mX4_habit (l0 : Launch) (D0 : va_G) (K0 : Nat → ClassId) (h : Nat → Nat) (σ : pS) (a1 : Int32) (a2 : Int32) (a3 : Int32) {r : Int32} {u : pS} (hf : fX4_habit σ a1 a2 a3 = some (r, u)) : Met l0 yX4_habit wsX4_habit ({ frames := 1, cells := 0, slots := 0, locals := 21 } : Room) (va_Pc [.ref (h 0), .int a1, .int a2, .int a3] (pIn wX D0 K0 h σ)) (va_Qi (fun r' u' => r' = r ∧ u' = u) (pOut wX D0 K0 h) (pA wX h)) 0 0 (pA wX h) := by
  refine p_metI (lv := [(0, .ref (h 0)), (1, .int a1), (2, .int a2), (3, .int a3)]) (by decide +kernel) rfl rfl (Nat.le_of_ble_eq_true rfl) rfl (fun X C hret => ?_)
  unfold fX4_habit at hf
  refine g_aload_n C 0 dX4_habit_0 rfl rfl ?_
  refine g_getR C in_X4_habit_X4 (k := 8) lk_X4_habit_0 rfl (Nat.le_of_ble_eq_true rfl) rfl (Nat.le_of_ble_eq_true rfl) rfl dX4_habit_1 ?_
  refine g_iload_n C 1 dX4_habit_4 rfl rfl ?_
  obtain ⟨hg1, hf⟩ := g_guard hf
  obtain ⟨r3, hc2, hf⟩ := g_bind hf
  refine g_callVi C (mX3_isPerson l0 D0 K0 h σ (pR σ 0 8) a1 hc2) gX4_habit_X3_isPerson rfl rfl rfl ddX3_isPerson ⟨(Nat.le_of_ble_eq_true rfl), (Nat.le_of_ble_eq_true rfl)⟩ (shV hg1) (ltV hg1) rfl rfl rfl (Nat.le_of_ble_eq_true rfl) dX4_habit_5 ?_
  refine g_if_eq (tgt := 27) hf C dX4_habit_8 (by decide) (fun hf => ?_) (fun hf => ?_)
  · refine g_iconst C dX4_habit_27 ic_m1 ?_
    exact g_retiW hf hret dX4_habit_28
  · refine g_iload_n C 2 dX4_habit_11 rfl rfl ?_
    obtain ⟨r5, hc4, hf⟩ := g_bind hf
    refine g_callSi C (mX4_isHour l0 D0 K0 h σ a2 hc4) gX4_habit_X4_isHour rfl rfl rfl ddX4_isHour ⟨(Nat.le_of_ble_eq_true rfl), (Nat.le_of_ble_eq_true rfl)⟩ rfl rfl (Nat.le_of_ble_eq_true rfl) dX4_habit_12 ?_
    refine g_if_eq (tgt := 27) hf C dX4_habit_15 (by decide) (fun hf => ?_) (fun hf => ?_)
    · refine g_iconst C dX4_habit_27 ic_m1 ?_
      exact g_retiW hf hret dX4_habit_28
    · refine g_iload_n C 3 dX4_habit_18 rfl rfl ?_
      refine g_if_lt (tgt := 27) hf C dX4_habit_19 (by decide) (fun hf => ?_) (fun hf => ?_)
      · refine g_iconst C dX4_habit_27 ic_m1 ?_
        exact g_retiW hf hret dX4_habit_28
      · refine g_iload_n C 3 dX4_habit_22 rfl rfl ?_
        refine g_iconst C dX4_habit_23 ic_1 ?_
        refine g_icmp_le (tgt := 29) hf C dX4_habit_24 (by decide) (fun hf => ?_) (fun hf => ?_)
        · refine g_aload_n C 0 dX4_habit_29 rfl rfl ?_
          refine g_getR C in_X4_habit_X4 (k := 8) lk_X4_habit_0 rfl (Nat.le_of_ble_eq_true rfl) rfl (Nat.le_of_ble_eq_true rfl) rfl dX4_habit_30 ?_
          refine g_getC (n := (pR σ 0 8) + 3) C in_X4_habit_X3 (k := 5) lk_X4_habit_1 rfl (Nat.le_of_ble_eq_true rfl) (shV hg1) (ltV hg1) rfl dX4_habit_33 ?_
          refine g_iload_n C 1 dX4_habit_36 rfl rfl ?_
          refine g_iald hf C (shV3 hg1).1 (shV3 hg1).2 dX4_habit_37 (fun hf => ?_)
          refine g_iload_n C 2 dX4_habit_38 rfl rfl ?_
          refine g_ishr C dX4_habit_39 ?_
          refine g_iconst C dX4_habit_40 ic_1 ?_
          refine g_iand C dX4_habit_41 ?_
          refine g_leti hf (fun x6 hf => ?_)
          refine g_istore C [1, 2, 3, 4, 0] dX4_habit_42 (Nat.le_of_ble_eq_true rfl) rfl ?_
          refine g_aload_n C 0 dX4_habit_44 rfl rfl ?_
          refine g_getR C in_X4_habit_X4 (k := 8) lk_X4_habit_0 rfl (Nat.le_of_ble_eq_true rfl) rfl (Nat.le_of_ble_eq_true rfl) rfl dX4_habit_45 ?_
          refine g_getC (n := (pR σ 0 8) + 3) C in_X4_habit_X3 (k := 5) lk_X4_habit_1 rfl (Nat.le_of_ble_eq_true rfl) (shV hg1) (ltV hg1) rfl dX4_habit_48 ?_
          refine g_iload_n C 1 dX4_habit_51 rfl rfl ?_
          refine g_aload_n C 0 dX4_habit_52 rfl rfl ?_
          refine g_getR C in_X4_habit_X4 (k := 8) lk_X4_habit_0 rfl (Nat.le_of_ble_eq_true rfl) rfl (Nat.le_of_ble_eq_true rfl) rfl dX4_habit_53 ?_
          refine g_getC (n := (pR σ 0 8) + 3) C in_X4_habit_X3 (k := 5) lk_X4_habit_1 rfl (Nat.le_of_ble_eq_true rfl) (shV hg1) (ltV hg1) rfl dX4_habit_56 ?_
          refine g_iload_n C 1 dX4_habit_59 rfl rfl ?_
          refine g_iald hf C (shV3 hg1).1 (shV3 hg1).2 dX4_habit_60 (fun hf => ?_)
          refine g_iconst C dX4_habit_61 ic_1 ?_
          refine g_iload_n C 2 dX4_habit_62 rfl rfl ?_
          refine g_ishl C dX4_habit_63 ?_
          refine g_iconst C dX4_habit_64 ic_m1 ?_
          refine g_ixor C dX4_habit_65 ?_
          refine g_iand C dX4_habit_66 ?_
          refine g_iload_n C 3 dX4_habit_67 rfl rfl ?_
          refine g_iload_n C 2 dX4_habit_68 rfl rfl ?_
          refine g_ishl C dX4_habit_69 ?_
          refine g_ior C dX4_habit_70 ?_
          refine g_iast hf C (shV3 hg1).1 (shV3 hg1).2 dX4_habit_71 (fun hf => ?_)
          refine g_lets hf (fun σ7 hf => ?_)
          refine g_iload C 4 dX4_habit_72 rfl ?_
          exact g_retiW hf hret dX4_habit_74
        · refine g_iconst C dX4_habit_27 ic_m1 ?_
          exact g_retiW hf hret dX4_habit_28
/-! X4_empty -/
theorem in_X4_empty_X4 : ∀ q ∈ u_ws RX4 TX4 13, q ∈ wsX4_empty := by decide +kernel
theorem lk_X4_empty_0 : Cond.fieldLink RX4 53 "EmptyHouse" "live" "LEmptyHouse$Village;" ∈ wsX4_empty := by decide +kernel
theorem ddX4_empty : yX4_empty.cls = RX4 ∧ yX4_empty.cls ≠ "java/lang/invoke/MethodHandle" ∧ yX4_empty.cls ≠ "java/lang/invoke/VarHandle" ∧ (parseMethodDescriptor yX4_empty.desc).map (fun d => d.parameters.length) = some 1 := by decide +kernel
set_option maxHeartbeats 4000000 in
set_option maxRecDepth 100000 in
theorem mX4_empty (l0 : Launch) (D0 : va_G) (K0 : Nat → ClassId) (h : Nat → Nat) (σ : pS) (a1 : Int32) {r : Int32} (hf : fX4_empty σ a1 = some r) : Met l0 yX4_empty wsX4_empty ({ frames := 4, cells := 0, slots := 0, locals := 90 } : Room) (va_Pc [.ref (h 0), .int a1] (pIn wX D0 K0 h σ)) (va_Qi (fun r' u' => r' = r ∧ u' = σ) (pOut wX D0 K0 h) (pA wX h)) 0 0 (pA wX h) := by
  refine p_metI (lv := [(0, .ref (h 0)), (1, .int a1)]) (by decide +kernel) rfl rfl (Nat.le_of_ble_eq_true rfl) rfl (fun X C hret => ?_)
  unfold fX4_empty at hf
  refine g_aload_n C 0 dX4_empty_0 rfl rfl ?_
  refine g_getR C in_X4_empty_X4 (k := 8) lk_X4_empty_0 rfl (Nat.le_of_ble_eq_true rfl) rfl (Nat.le_of_ble_eq_true rfl) rfl dX4_empty_1 ?_
  refine g_iload_n C 1 dX4_empty_4 rfl rfl ?_
  obtain ⟨hg1, hf⟩ := g_guard hf
  obtain ⟨r3, hc2, hf⟩ := g_bind hf
  refine g_callVi C (mX3_isPerson l0 D0 K0 h σ (pR σ 0 8) a1 hc2) gX4_empty_X3_isPerson rfl rfl rfl ddX3_isPerson ⟨(Nat.le_of_ble_eq_true rfl), (Nat.le_of_ble_eq_true rfl)⟩ (shV hg1) (ltV hg1) rfl rfl rfl (Nat.le_of_ble_eq_true rfl) dX4_empty_5 ?_
  refine g_if_eq (tgt := 22) hf C dX4_empty_8 (by decide) (fun hf => ?_) (fun hf => ?_)
  · refine g_iconst C dX4_empty_22 ic_m1 ?_
    exact g_reti hf hret dX4_empty_23
  · refine g_aload_n C 0 dX4_empty_11 rfl rfl ?_
    refine g_getR C in_X4_empty_X4 (k := 8) lk_X4_empty_0 rfl (Nat.le_of_ble_eq_true rfl) rfl (Nat.le_of_ble_eq_true rfl) rfl dX4_empty_12 ?_
    refine g_iload_n C 1 dX4_empty_15 rfl rfl ?_
    obtain ⟨r5, hc4, hf⟩ := g_bind hf
    refine g_callVi C (mX3_emptyHours l0 D0 K0 h σ (pR σ 0 8) a1 hc4) gX4_empty_X3_emptyHours rfl rfl rfl ddX3_emptyHours ⟨(Nat.le_of_ble_eq_true rfl), (Nat.le_of_ble_eq_true rfl)⟩ (shV hg1) (ltV hg1) rfl rfl rfl (Nat.le_of_ble_eq_true rfl) dX4_empty_16 ?_
    refine g_goto (tgt := 23) C dX4_empty_19 (by decide) ?_
    exact g_reti hf hret dX4_empty_23
/-! X4_when -/
theorem in_X4_when_X4 : ∀ q ∈ u_ws RX4 TX4 13, q ∈ wsX4_when := by decide +kernel
theorem lk_X4_when_0 : Cond.fieldLink RX4 53 "EmptyHouse" "live" "LEmptyHouse$Village;" ∈ wsX4_when := by decide +kernel
theorem ddX4_when : yX4_when.cls = RX4 ∧ yX4_when.cls ≠ "java/lang/invoke/MethodHandle" ∧ yX4_when.cls ≠ "java/lang/invoke/VarHandle" ∧ (parseMethodDescriptor yX4_when.desc).map (fun d => d.parameters.length) = some 1 := by decide +kernel
set_option maxHeartbeats 4000000 in
set_option maxRecDepth 100000 in
theorem mX4_when (l0 : Launch) (D0 : va_G) (K0 : Nat → ClassId) (h : Nat → Nat) (σ : pS) (a1 : Int32) {r : Int32} (hf : fX4_when σ a1 = some r) : Met l0 yX4_when wsX4_when ({ frames := 5, cells := 0, slots := 0, locals := 113 } : Room) (va_Pc [.ref (h 0), .int a1] (pIn wX D0 K0 h σ)) (va_Qi (fun r' u' => r' = r ∧ u' = σ) (pOut wX D0 K0 h) (pA wX h)) 0 0 (pA wX h) := by
  refine p_metI (lv := [(0, .ref (h 0)), (1, .int a1)]) (by decide +kernel) rfl rfl (Nat.le_of_ble_eq_true rfl) rfl (fun X C hret => ?_)
  unfold fX4_when at hf
  refine g_aload_n C 0 dX4_when_0 rfl rfl ?_
  refine g_getR C in_X4_when_X4 (k := 8) lk_X4_when_0 rfl (Nat.le_of_ble_eq_true rfl) rfl (Nat.le_of_ble_eq_true rfl) rfl dX4_when_1 ?_
  refine g_iload_n C 1 dX4_when_4 rfl rfl ?_
  obtain ⟨hg1, hf⟩ := g_guard hf
  obtain ⟨r3, hc2, hf⟩ := g_bind hf
  refine g_callVi C (mX3_isDebt l0 D0 K0 h σ (pR σ 0 8) a1 hc2) gX4_when_X3_isDebt rfl rfl rfl ddX3_isDebt ⟨(Nat.le_of_ble_eq_true rfl), (Nat.le_of_ble_eq_true rfl)⟩ (shV hg1) (ltV hg1) rfl rfl rfl (Nat.le_of_ble_eq_true rfl) dX4_when_5 ?_
  refine g_if_eq (tgt := 22) hf C dX4_when_8 (by decide) (fun hf => ?_) (fun hf => ?_)
  · refine g_iconst C dX4_when_22 ic_m1 ?_
    exact g_reti hf hret dX4_when_23
  · refine g_aload_n C 0 dX4_when_11 rfl rfl ?_
    refine g_getR C in_X4_when_X4 (k := 8) lk_X4_when_0 rfl (Nat.le_of_ble_eq_true rfl) rfl (Nat.le_of_ble_eq_true rfl) rfl dX4_when_12 ?_
    refine g_iload_n C 1 dX4_when_15 rfl rfl ?_
    obtain ⟨r5, hc4, hf⟩ := g_bind hf
    refine g_callVi C (mX3_payableHours l0 D0 K0 h σ (pR σ 0 8) a1 hc4) gX4_when_X3_payableHours rfl rfl rfl ddX3_payableHours ⟨(Nat.le_of_ble_eq_true rfl), (Nat.le_of_ble_eq_true rfl)⟩ (shV hg1) (ltV hg1) rfl rfl rfl (Nat.le_of_ble_eq_true rfl) dX4_when_16 ?_
    refine g_goto (tgt := 23) C dX4_when_19 (by decide) ?_
    exact g_reti hf hret dX4_when_23
/-! X4_hour -/
theorem in_X4_hour_X4 : ∀ q ∈ u_ws RX4 TX4 13, q ∈ wsX4_hour := by decide +kernel
theorem lk_X4_hour_0 : Cond.fieldLink RX4 53 "EmptyHouse" "live" "LEmptyHouse$Village;" ∈ wsX4_hour := by decide +kernel
theorem lk_X4_hour_1 : Cond.fieldLink RX4 43 "EmptyHouse" "rounds" "LEmptyHouse$Rounds;" ∈ wsX4_hour := by decide +kernel
theorem lk_X4_hour_2 : Cond.fieldLink RX4 57 "EmptyHouse" "told" "I" ∈ wsX4_hour := by decide +kernel
theorem ddX4_hour : yX4_hour.cls = RX4 ∧ yX4_hour.cls ≠ "java/lang/invoke/MethodHandle" ∧ yX4_hour.cls ≠ "java/lang/invoke/VarHandle" ∧ (parseMethodDescriptor yX4_hour.desc).map (fun d => d.parameters.length) = some 1 := by decide +kernel
set_option maxHeartbeats 4000000 in
set_option maxRecDepth 100000 in
theorem mX4_hour (l0 : Launch) (D0 : va_G) (K0 : Nat → ClassId) (h : Nat → Nat) (σ : pS) (a1 : Int32) {r : Int32} {u : pS} (hf : fX4_hour σ a1 = some (r, u)) : Met l0 yX4_hour wsX4_hour ({ frames := 5, cells := 0, slots := 0, locals := 114 } : Room) (va_Pc [.ref (h 0), .int a1] (pIn wX D0 K0 h σ)) (va_Qi (fun r' u' => r' = r ∧ u' = u) (pOut wX D0 K0 h) (pA wX h)) 0 0 (pA wX h) := by
  refine p_metI (lv := [(0, .ref (h 0)), (1, .int a1)]) (by decide +kernel) rfl rfl (Nat.le_of_ble_eq_true rfl) rfl (fun X C hret => ?_)
  unfold fX4_hour at hf
  refine g_iload_n C 1 dX4_hour_0 rfl rfl ?_
  obtain ⟨r2, hc1, hf⟩ := g_bind hf
  refine g_callSi C (mX4_isHour l0 D0 K0 h σ a1 hc1) gX4_hour_X4_isHour rfl rfl rfl ddX4_isHour ⟨(Nat.le_of_ble_eq_true rfl), (Nat.le_of_ble_eq_true rfl)⟩ rfl rfl (Nat.le_of_ble_eq_true rfl) dX4_hour_1 ?_
  refine g_if_ne (tgt := 9) hf C dX4_hour_4 (by decide) (fun hf => ?_) (fun hf => ?_)
  · refine g_aload_n C 0 dX4_hour_9 rfl rfl ?_
    refine g_getR C in_X4_hour_X4 (k := 8) lk_X4_hour_0 rfl (Nat.le_of_ble_eq_true rfl) rfl (Nat.le_of_ble_eq_true rfl) rfl dX4_hour_10 ?_
    refine g_iload_n C 1 dX4_hour_13 rfl rfl ?_
    refine g_aload_n C 0 dX4_hour_14 rfl rfl ?_
    refine g_getR C in_X4_hour_X4 (k := 8) lk_X4_hour_0 rfl (Nat.le_of_ble_eq_true rfl) rfl (Nat.le_of_ble_eq_true rfl) rfl dX4_hour_15 ?_
    refine g_iload_n C 1 dX4_hour_18 rfl rfl ?_
    obtain ⟨hg3, hf⟩ := g_guard hf
    obtain ⟨r5, hc4, hf⟩ := g_bind hf
    refine g_callVi C (mX3_peopleOut l0 D0 K0 h σ (pR σ 0 8) a1 hc4) gX4_hour_X3_peopleOut rfl rfl rfl ddX3_peopleOut ⟨(Nat.le_of_ble_eq_true rfl), (Nat.le_of_ble_eq_true rfl)⟩ (shV hg3) (ltV hg3) rfl rfl rfl (Nat.le_of_ble_eq_true rfl) dX4_hour_19 ?_
    obtain ⟨r7, hc6, hf⟩ := g_bind hf
    refine g_callVi C (mX3_payableDebts l0 D0 K0 h σ (pR σ 0 8) a1 r5 hc6) gX4_hour_X3_payableDebts rfl rfl rfl ddX3_payableDebts ⟨(Nat.le_of_ble_eq_true rfl), (Nat.le_of_ble_eq_true rfl)⟩ (shV hg3) (ltV hg3) rfl rfl rfl (Nat.le_of_ble_eq_true rfl) dX4_hour_22 ?_
    refine g_istore_n C [1, 0] dX4_hour_25 rfl (Nat.le_of_ble_eq_true rfl) rfl ?_
    refine g_aload_n C 0 dX4_hour_26 rfl rfl ?_
    refine g_aload_n C 0 dX4_hour_27 rfl rfl ?_
    refine g_getC (n := 3) C in_X4_hour_X4 (k := 6) lk_X4_hour_1 rfl (Nat.le_of_ble_eq_true rfl) rfl (Nat.le_of_ble_eq_true rfl) rfl dX4_hour_28 ?_
    refine g_iload_n C 1 dX4_hour_31 rfl rfl ?_
    obtain ⟨r9, hc8, hf⟩ := g_bind hf
    refine g_callVi C (mX2_mostAtOnce l0 D0 K0 h σ r7 hc8) gX4_hour_X2_mostAtOnce rfl rfl rfl ddX2_mostAtOnce ⟨(Nat.le_of_ble_eq_true rfl), (Nat.le_of_ble_eq_true rfl)⟩ rfl (Nat.le_of_ble_eq_true rfl) rfl rfl rfl (Nat.le_of_ble_eq_true rfl) dX4_hour_32 ?_
    refine g_putI C in_X4_hour_X4 (k := 9) lk_X4_hour_2 rfl (Nat.le_of_ble_eq_true rfl) rfl (Nat.le_of_ble_eq_true rfl) tyX4 tyX4_ok nmX4 rfl rfl rfl rfl dX4_hour_35 ?_
    refine g_lets hf (fun σ10 hf => ?_)
    refine g_iload_n C 1 dX4_hour_38 rfl rfl ?_
    exact g_retiW hf hret dX4_hour_39
  · refine g_iconst C dX4_hour_7 ic_m1 ?_
    exact g_retiW hf hret dX4_hour_8
/-! X4_refuseRound -/
theorem in_X4_refuseRound_X3 : ∀ q ∈ u_ws RX3 TX3 11, q ∈ wsX4_refuseRound := by decide +kernel
theorem in_X4_refuseRound_X4 : ∀ q ∈ u_ws RX4 TX4 13, q ∈ wsX4_refuseRound := by decide +kernel
theorem lk_X4_refuseRound_0 : Cond.fieldLink RX4 14 "EmptyHouse" "rowSizes" "[I" ∈ wsX4_refuseRound := by decide +kernel
theorem lk_X4_refuseRound_1 : Cond.fieldLink RX4 53 "EmptyHouse" "live" "LEmptyHouse$Village;" ∈ wsX4_refuseRound := by decide +kernel
theorem lk_X4_refuseRound_2 : Cond.fieldLink RX4 184 "EmptyHouse$Village" "debts" "I" ∈ wsX4_refuseRound := by decide +kernel
theorem lk_X4_refuseRound_3 : Cond.fieldLink RX4 11 "EmptyHouse" "rows" "[[I" ∈ wsX4_refuseRound := by decide +kernel
theorem ddX4_refuseRound : yX4_refuseRound.cls = RX4 ∧ yX4_refuseRound.cls ≠ "java/lang/invoke/MethodHandle" ∧ yX4_refuseRound.cls ≠ "java/lang/invoke/VarHandle" ∧ (parseMethodDescriptor yX4_refuseRound.desc).map (fun d => d.parameters.length) = some 1 := by decide +kernel
set_option maxHeartbeats 4000000 in
set_option maxRecDepth 100000 in
theorem lX4_refuseRound_49_ok {h : Nat → Nat} {X : Cx} {l0 : Launch} {D0 : va_G} {K0 : Nat → ClassId} (σ : pS) (p1 : Int32) {k99 : Option (Int32 × pS)} {r : Int32} {u : pS} (C : Cok wX h X l0 ({ frames := 1, cells := 0, slots := 0, locals := 21 } : Room) D0 K0 cX4_refuseRound 3 RX4 wsX4_refuseRound) (hret : ∀ (pc : Nat) (lv' : List (Nat × Value)), decode cX4_refuseRound pc = .ok (.ireturn, 1) → G wX h X pc lv' [.int r] u) (hk99 :  k99 = some (r, u) → G wX h X 99 [] [] σ) : ∀ (F : Nat) (v2 : Int32), lX4_refuseRound_49 σ p1 k99 F v2 = some (r, u) → G wX h X 49 [(0, .ref (h 0)), (1, .int p1), (2, .int v2)] [] σ := by
  intro F
  induction F with
  | zero => intro v2 hf; exact absurd hf (by simp [lX4_refuseRound_49])
  | succ F ih =>
    intro v2 hf
    rw [lX4_refuseRound_49.eq_2] at hf
    refine g_iload_n C 2 dX4_refuseRound_49 rfl rfl ?_
    refine g_aload_n C 0 dX4_refuseRound_50 rfl rfl ?_
    refine g_getR C in_X4_refuseRound_X4 (k := 8) lk_X4_refuseRound_1 rfl (Nat.le_of_ble_eq_true rfl) rfl (Nat.le_of_ble_eq_true rfl) rfl dX4_refuseRound_51 ?_
    obtain ⟨hg4, hf⟩ := g_guard hf
    refine g_getI C in_X4_refuseRound_X3 (k := 1) lk_X4_refuseRound_2 rfl (Nat.le_of_ble_eq_true rfl) (shV hg4) (ltV hg4) rfl dX4_refuseRound_54 ?_
    refine g_icmp_ge (tgt := 99) hf C dX4_refuseRound_57 (by decide) (fun hf => ?_) (fun hf => ?_)
    · refine g_lv [] rfl ?_
      exact hk99 hf
    · refine g_aload_n C 0 dX4_refuseRound_60 rfl rfl ?_
      refine g_getC (n := 4) C in_X4_refuseRound_X4 (k := 0) lk_X4_refuseRound_3 rfl (Nat.le_of_ble_eq_true rfl) rfl (Nat.le_of_ble_eq_true rfl) rfl dX4_refuseRound_61 ?_
      refine g_iload_n C 1 dX4_refuseRound_64 rfl rfl ?_
      refine g_aald hf C rfl (by decide) (Nat.le_of_ble_eq_true rfl) dX4_refuseRound_65 (fun hp5 hf => ?_)
      refine g_iload_n C 2 dX4_refuseRound_66 rfl rfl ?_
      refine g_iald hf C (sh_row _ (pin_lt hp5)).1 (sh_row _ (pin_lt hp5)).2 dX4_refuseRound_67 (fun hf => ?_)
      obtain ⟨r7, hc6, hf⟩ := g_bind hf
      refine g_callSi C (mX4_isHour l0 D0 K0 h σ (pI σ (20 + (p1).toNatClampNeg) (v2).toNatClampNeg) hc6) gX4_refuseRound_X4_isHour rfl rfl rfl ddX4_isHour ⟨(Nat.le_of_ble_eq_true rfl), (Nat.le_of_ble_eq_true rfl)⟩ rfl rfl (Nat.le_of_ble_eq_true rfl) dX4_refuseRound_68 ?_
      refine g_if_ne (tgt := 93) hf C dX4_refuseRound_71 (by decide) (fun hf => ?_) (fun hf => ?_)
      · refine g_iinc C 2 [1, 2, 0] dX4_refuseRound_93 rfl ic_1 (Nat.le_of_ble_eq_true rfl) rfl ?_
        refine g_goto (tgt := 49) C dX4_refuseRound_96 (by decide) ?_
        exact ih (v2 + (1 : Int32)) hf
      · refine g_aload_n C 0 dX4_refuseRound_74 rfl rfl ?_
        refine g_getC (n := 4) C in_X4_refuseRound_X4 (k := 0) lk_X4_refuseRound_3 rfl (Nat.le_of_ble_eq_true rfl) rfl (Nat.le_of_ble_eq_true rfl) rfl dX4_refuseRound_75 ?_
        refine g_iload_n C 1 dX4_refuseRound_78 rfl rfl ?_
        refine g_aald hf C rfl (by decide) (Nat.le_of_ble_eq_true rfl) dX4_refuseRound_79 (fun hp8 hf => ?_)
        refine g_iload_n C 2 dX4_refuseRound_80 rfl rfl ?_
        refine g_iald hf C (sh_row _ (pin_lt hp8)).1 (sh_row _ (pin_lt hp8)).2 dX4_refuseRound_81 (fun hf => ?_)
        refine g_bipush C dX4_refuseRound_82 bp_m9 ?_
        refine g_icmp_eq (tgt := 93) hf C dX4_refuseRound_84 (by decide) (fun hf => ?_) (fun hf => ?_)
        · refine g_iinc C 2 [1, 2, 0] dX4_refuseRound_93 rfl ic_1 (Nat.le_of_ble_eq_true rfl) rfl ?_
          refine g_goto (tgt := 49) C dX4_refuseRound_96 (by decide) ?_
          exact ih (v2 + (1 : Int32)) hf
        · refine g_aload_n C 0 dX4_refuseRound_87 rfl rfl ?_
          refine g_iconst C dX4_refuseRound_88 ic_3 ?_
          obtain ⟨r10, σ11, hc9, hf⟩ := g_pbind hf
          refine g_callVi C (mX4_find l0 D0 K0 h σ (3 : Int32) hc9) gX4_refuseRound_X4_find rfl rfl rfl ddX4_find ⟨(Nat.le_of_ble_eq_true rfl), (Nat.le_of_ble_eq_true rfl)⟩ rfl (Nat.le_of_ble_eq_true rfl) rfl rfl rfl (Nat.le_of_ble_eq_true rfl) dX4_refuseRound_89 ?_
          exact g_retiW hf hret dX4_refuseRound_92
set_option maxHeartbeats 4000000 in
set_option maxRecDepth 100000 in
theorem mX4_refuseRound (l0 : Launch) (D0 : va_G) (K0 : Nat → ClassId) (h : Nat → Nat) (σ : pS) (a1 : Int32) {r : Int32} {u : pS} (hf : fX4_refuseRound σ a1 = some (r, u)) : Met l0 yX4_refuseRound wsX4_refuseRound ({ frames := 1, cells := 0, slots := 0, locals := 21 } : Room) (va_Pc [.ref (h 0), .int a1] (pIn wX D0 K0 h σ)) (va_Qi (fun r' u' => r' = r ∧ u' = u) (pOut wX D0 K0 h) (pA wX h)) 0 0 (pA wX h) := by
  refine p_metI (lv := [(0, .ref (h 0)), (1, .int a1)]) (by decide +kernel) rfl rfl (Nat.le_of_ble_eq_true rfl) rfl (fun X C hret => ?_)
  unfold fX4_refuseRound at hf
  refine g_iload_n C 1 dX4_refuseRound_0 rfl rfl ?_
  obtain ⟨r2, hc1, hf⟩ := g_bind hf
  refine g_callSi C (mX4_isRow l0 D0 K0 h σ a1 hc1) gX4_refuseRound_X4_isRow rfl rfl rfl ddX4_isRow ⟨(Nat.le_of_ble_eq_true rfl), (Nat.le_of_ble_eq_true rfl)⟩ rfl rfl (Nat.le_of_ble_eq_true rfl) dX4_refuseRound_1 ?_
  refine g_if_ne (tgt := 9) hf C dX4_refuseRound_4 (by decide) (fun hf => ?_) (fun hf => ?_)
  · refine g_aload_n C 0 dX4_refuseRound_9 rfl rfl ?_
    refine g_getC (n := 5) C in_X4_refuseRound_X4 (k := 1) lk_X4_refuseRound_0 rfl (Nat.le_of_ble_eq_true rfl) rfl (Nat.le_of_ble_eq_true rfl) rfl dX4_refuseRound_10 ?_
    refine g_iload_n C 1 dX4_refuseRound_13 rfl rfl ?_
    refine g_iald hf C rfl (Nat.le_of_ble_eq_true rfl) dX4_refuseRound_14 (fun hf => ?_)
    refine g_iconst C dX4_refuseRound_15 ic_m1 ?_
    refine g_icmp_ne (tgt := 25) hf C dX4_refuseRound_16 (by decide) (fun hf => ?_) (fun hf => ?_)
    · refine g_aload_n C 0 dX4_refuseRound_25 rfl rfl ?_
      refine g_getC (n := 5) C in_X4_refuseRound_X4 (k := 1) lk_X4_refuseRound_0 rfl (Nat.le_of_ble_eq_true rfl) rfl (Nat.le_of_ble_eq_true rfl) rfl dX4_refuseRound_26 ?_
      refine g_iload_n C 1 dX4_refuseRound_29 rfl rfl ?_
      refine g_iald hf C rfl (Nat.le_of_ble_eq_true rfl) dX4_refuseRound_30 (fun hf => ?_)
      refine g_aload_n C 0 dX4_refuseRound_31 rfl rfl ?_
      refine g_getR C in_X4_refuseRound_X4 (k := 8) lk_X4_refuseRound_1 rfl (Nat.le_of_ble_eq_true rfl) rfl (Nat.le_of_ble_eq_true rfl) rfl dX4_refuseRound_32 ?_
      obtain ⟨hg3, hf⟩ := g_guard hf
      refine g_getI C in_X4_refuseRound_X3 (k := 1) lk_X4_refuseRound_2 rfl (Nat.le_of_ble_eq_true rfl) (shV hg3) (ltV hg3) rfl dX4_refuseRound_35 ?_
      refine g_icmp_eq (tgt := 47) hf C dX4_refuseRound_38 (by decide) (fun hf => ?_) (fun hf => ?_)
      · refine g_iconst C dX4_refuseRound_47 ic_0 ?_
        refine g_istore_n C [1, 2, 0] dX4_refuseRound_48 rfl (Nat.le_of_ble_eq_true rfl) rfl ?_
        refine lX4_refuseRound_49_ok σ a1 C hret (fun hf => ?_) FU (0 : Int32) hf
        refine g_iconst C dX4_refuseRound_99 ic_0 ?_
        exact g_retiW hf hret dX4_refuseRound_100
      · refine g_aload_n C 0 dX4_refuseRound_41 rfl rfl ?_
        refine g_iconst C dX4_refuseRound_42 ic_5 ?_
        obtain ⟨r13, σ14, hc12, hf⟩ := g_pbind hf
        refine g_callVi C (mX4_find l0 D0 K0 h σ (5 : Int32) hc12) gX4_refuseRound_X4_find rfl rfl rfl ddX4_find ⟨(Nat.le_of_ble_eq_true rfl), (Nat.le_of_ble_eq_true rfl)⟩ rfl (Nat.le_of_ble_eq_true rfl) rfl rfl rfl (Nat.le_of_ble_eq_true rfl) dX4_refuseRound_43 ?_
        exact g_retiW hf hret dX4_refuseRound_46
    · refine g_aload_n C 0 dX4_refuseRound_19 rfl rfl ?_
      refine g_iconst C dX4_refuseRound_20 ic_1 ?_
      obtain ⟨r16, σ17, hc15, hf⟩ := g_pbind hf
      refine g_callVi C (mX4_find l0 D0 K0 h σ (1 : Int32) hc15) gX4_refuseRound_X4_find rfl rfl rfl ddX4_find ⟨(Nat.le_of_ble_eq_true rfl), (Nat.le_of_ble_eq_true rfl)⟩ rfl (Nat.le_of_ble_eq_true rfl) rfl rfl rfl (Nat.le_of_ble_eq_true rfl) dX4_refuseRound_21 ?_
      exact g_retiW hf hret dX4_refuseRound_24
  · refine g_iconst C dX4_refuseRound_7 ic_m1 ?_
    exact g_retiW hf hret dX4_refuseRound_8
