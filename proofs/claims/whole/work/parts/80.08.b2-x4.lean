/-! X4_isKeepingPlace -/
theorem ddX4_isKeepingPlace : yX4_isKeepingPlace.cls ≠ "java/lang/invoke/MethodHandle" ∧ yX4_isKeepingPlace.cls ≠ "java/lang/invoke/VarHandle" ∧ (parseMethodDescriptor yX4_isKeepingPlace.desc).map (fun d => d.parameters.length) = some 1 := by decide +kernel
set_option maxHeartbeats 4000000 in
set_option maxRecDepth 100000 in
theorem mX4_isKeepingPlace (l0 : Launch) (D0 : va_G) (K0 : Nat → ClassId) (h : Nat → Nat) (σ : pS) (a1 : Int32) {r : Int32} (hf : fX4_isKeepingPlace a1 = some r) : Met l0 yX4_isKeepingPlace wsX4_isKeepingPlace ({ frames := 0, cells := 0, slots := 0, locals := 0 } : Room) (va_Pc [.int a1] (pIn wX D0 K0 h σ)) (va_Qi (fun r' u' => r' = r ∧ u' = σ) (pOut wX D0 K0 h) (pA wX h)) 0 0 (pA wX h) := by
  refine p_metZ (lv := [(0, .int a1)]) (by decide +kernel) rfl rfl (Nat.le_of_ble_eq_true rfl) rfl (fun X C hret => ?_)
  unfold fX4_isKeepingPlace at hf
  refine g_iload_n C 0 dX4_isKeepingPlace_0 rfl rfl ?_
  refine g_if_lt (tgt := 13) hf C dX4_isKeepingPlace_1 (by decide) (fun hf => ?_) (fun hf => ?_)
  · refine g_iconst C dX4_isKeepingPlace_13 ic_0 ?_
    exact g_retz hf (by decide) hret dX4_isKeepingPlace_14
  · refine g_iload_n C 0 dX4_isKeepingPlace_4 rfl rfl ?_
    refine g_iconst C dX4_isKeepingPlace_5 ic_3 ?_
    refine g_icmp_ge (tgt := 13) hf C dX4_isKeepingPlace_6 (by decide) (fun hf => ?_) (fun hf => ?_)
    · refine g_iconst C dX4_isKeepingPlace_13 ic_0 ?_
      exact g_retz hf (by decide) hret dX4_isKeepingPlace_14
    · refine g_iconst C dX4_isKeepingPlace_9 ic_1 ?_
      refine g_goto (tgt := 14) C dX4_isKeepingPlace_10 (by decide) ?_
      exact g_retz hf (by decide) hret dX4_isKeepingPlace_14
/-! X4_keep -/
theorem in_X4_keep_X3 : ∀ q ∈ u_ws RX3 TX3 11, q ∈ wsX4_keep := by decide +kernel
theorem in_X4_keep_X4 : ∀ q ∈ u_ws RX4 TX4 13, q ∈ wsX4_keep := by decide +kernel
theorem lk_X4_keep_0 : Cond.fieldLink RX4 36 "EmptyHouse" "books" "LEmptyHouse$Books;" ∈ wsX4_keep := by decide +kernel
theorem lk_X4_keep_1 : Cond.fieldLink RX4 53 "EmptyHouse" "live" "LEmptyHouse$Village;" ∈ wsX4_keep := by decide +kernel
theorem lk_X4_keep_2 : Cond.fieldLink RX4 184 "EmptyHouse$Village" "debts" "I" ∈ wsX4_keep := by decide +kernel
theorem ddX4_keep : yX4_keep.cls = RX4 ∧ yX4_keep.cls ≠ "java/lang/invoke/MethodHandle" ∧ yX4_keep.cls ≠ "java/lang/invoke/VarHandle" ∧ (parseMethodDescriptor yX4_keep.desc).map (fun d => d.parameters.length) = some 1 := by decide +kernel
set_option maxHeartbeats 4000000 in
set_option maxRecDepth 100000 in
theorem mX4_keep (l0 : Launch) (D0 : va_G) (K0 : Nat → ClassId) (h : Nat → Nat) (σ : pS) (a1 : Int32) {r : Int32} {u : pS} (hf : fX4_keep σ a1 = some (r, u)) : Met l0 yX4_keep wsX4_keep ({ frames := 2, cells := 0, slots := 0, locals := 81 } : Room) (va_Pc [.ref (h 0), .int a1] (pIn wX D0 K0 h σ)) (va_Qi (fun r' u' => r' = r ∧ u' = u) (pOut wX D0 K0 h) (pA wX h)) 0 0 (pA wX h) := by
  refine p_metI (lv := [(0, .ref (h 0)), (1, .int a1)]) (by decide +kernel) rfl rfl (Nat.le_of_ble_eq_true rfl) rfl (fun X C hret => ?_)
  unfold fX4_keep at hf
  refine g_iload_n C 1 dX4_keep_0 rfl rfl ?_
  obtain ⟨r2, hc1, hf⟩ := g_bind hf
  refine g_callSi C (mX4_isKeepingPlace l0 D0 K0 h σ a1 hc1) gX4_keep_X4_isKeepingPlace rfl rfl rfl ddX4_isKeepingPlace ⟨(Nat.le_of_ble_eq_true rfl), (Nat.le_of_ble_eq_true rfl)⟩ rfl rfl (Nat.le_of_ble_eq_true rfl) dX4_keep_1 ?_
  refine g_if_ne (tgt := 9) hf C dX4_keep_4 (by decide) (fun hf => ?_) (fun hf => ?_)
  · refine g_aload_n C 0 dX4_keep_9 rfl rfl ?_
    refine g_getC (n := 2) C in_X4_keep_X4 (k := 5) lk_X4_keep_0 rfl (Nat.le_of_ble_eq_true rfl) rfl (Nat.le_of_ble_eq_true rfl) rfl dX4_keep_10 ?_
    refine g_iload_n C 1 dX4_keep_13 rfl rfl ?_
    obtain ⟨r4, σ5, hc3, hf⟩ := g_pbind hf
    refine g_callVv C (mX0_store l0 D0 K0 h σ a1 hc3) gX4_keep_X0_store rfl rfl rfl ddX0_store ⟨(Nat.le_of_ble_eq_true rfl), (Nat.le_of_ble_eq_true rfl)⟩ rfl (Nat.le_of_ble_eq_true rfl) rfl rfl rfl (Nat.le_of_ble_eq_true rfl) dX4_keep_14 ?_
    refine g_aload_n C 0 dX4_keep_17 rfl rfl ?_
    refine g_getC (n := 2) C in_X4_keep_X4 (k := 5) lk_X4_keep_0 rfl (Nat.le_of_ble_eq_true rfl) rfl (Nat.le_of_ble_eq_true rfl) rfl dX4_keep_18 ?_
    refine g_aload_n C 0 dX4_keep_21 rfl rfl ?_
    refine g_getR C in_X4_keep_X4 (k := 8) lk_X4_keep_1 rfl (Nat.le_of_ble_eq_true rfl) rfl (Nat.le_of_ble_eq_true rfl) rfl dX4_keep_22 ?_
    obtain ⟨hg6, hf⟩ := g_guard hf
    refine g_getI C in_X4_keep_X3 (k := 1) lk_X4_keep_2 rfl (Nat.le_of_ble_eq_true rfl) (shV hg6) (ltV hg6) rfl dX4_keep_25 ?_
    obtain ⟨r8, hc7, hf⟩ := g_bind hf
    refine g_callVi C (mX0_howManyPaid l0 D0 K0 h σ5 (pI σ5 (pR σ5 0 8) 1) hc7) gX4_keep_X0_howManyPaid rfl rfl rfl ddX0_howManyPaid ⟨(Nat.le_of_ble_eq_true rfl), (Nat.le_of_ble_eq_true rfl)⟩ rfl (Nat.le_of_ble_eq_true rfl) rfl rfl rfl (Nat.le_of_ble_eq_true rfl) dX4_keep_28 ?_
    exact g_retiW hf hret dX4_keep_31
  · refine g_iconst C dX4_keep_7 ic_m1 ?_
    exact g_retiW hf hret dX4_keep_8
/-! X4_on -/
theorem in_X4_on_X0 : ∀ q ∈ u_ws RX0 TX0 3, q ∈ wsX4_on := by decide +kernel
theorem in_X4_on_X3 : ∀ q ∈ u_ws RX3 TX3 11, q ∈ wsX4_on := by decide +kernel
theorem in_X4_on_X4 : ∀ q ∈ u_ws RX4 TX4 13, q ∈ wsX4_on := by decide +kernel
theorem lk_X4_on_0 : Cond.fieldLink RX4 36 "EmptyHouse" "books" "LEmptyHouse$Books;" ∈ wsX4_on := by decide +kernel
theorem lk_X4_on_1 : Cond.fieldLink RX4 293 "EmptyHouse$Books" "isKept" "[Z" ∈ wsX4_on := by decide +kernel
theorem lk_X4_on_2 : Cond.fieldLink RX4 53 "EmptyHouse" "live" "LEmptyHouse$Village;" ∈ wsX4_on := by decide +kernel
theorem lk_X4_on_3 : Cond.fieldLink RX4 184 "EmptyHouse$Village" "debts" "I" ∈ wsX4_on := by decide +kernel
theorem ddX4_on : yX4_on.cls = RX4 ∧ yX4_on.cls ≠ "java/lang/invoke/MethodHandle" ∧ yX4_on.cls ≠ "java/lang/invoke/VarHandle" ∧ (parseMethodDescriptor yX4_on.desc).map (fun d => d.parameters.length) = some 1 := by decide +kernel
set_option maxHeartbeats 4000000 in
set_option maxRecDepth 100000 in
theorem mX4_on (l0 : Launch) (D0 : va_G) (K0 : Nat → ClassId) (h : Nat → Nat) (σ : pS) (a1 : Int32) {r : Int32} {u : pS} (hf : fX4_on σ a1 = some (r, u)) : Met l0 yX4_on wsX4_on ({ frames := 2, cells := 0, slots := 0, locals := 81 } : Room) (va_Pc [.ref (h 0), .int a1] (pIn wX D0 K0 h σ)) (va_Qi (fun r' u' => r' = r ∧ u' = u) (pOut wX D0 K0 h) (pA wX h)) 0 0 (pA wX h) := by
  refine p_metI (lv := [(0, .ref (h 0)), (1, .int a1)]) (by decide +kernel) rfl rfl (Nat.le_of_ble_eq_true rfl) rfl (fun X C hret => ?_)
  unfold fX4_on at hf
  refine g_iload_n C 1 dX4_on_0 rfl rfl ?_
  obtain ⟨r2, hc1, hf⟩ := g_bind hf
  refine g_callSi C (mX4_isKeepingPlace l0 D0 K0 h σ a1 hc1) gX4_on_X4_isKeepingPlace rfl rfl rfl ddX4_isKeepingPlace ⟨(Nat.le_of_ble_eq_true rfl), (Nat.le_of_ble_eq_true rfl)⟩ rfl rfl (Nat.le_of_ble_eq_true rfl) dX4_on_1 ?_
  refine g_if_ne (tgt := 9) hf C dX4_on_4 (by decide) (fun hf => ?_) (fun hf => ?_)
  · refine g_aload_n C 0 dX4_on_9 rfl rfl ?_
    refine g_getC (n := 2) C in_X4_on_X4 (k := 5) lk_X4_on_0 rfl (Nat.le_of_ble_eq_true rfl) rfl (Nat.le_of_ble_eq_true rfl) rfl dX4_on_10 ?_
    refine g_getC (n := 11) C in_X4_on_X0 (k := 2) lk_X4_on_1 rfl (Nat.le_of_ble_eq_true rfl) rfl (Nat.le_of_ble_eq_true rfl) rfl dX4_on_13 ?_
    refine g_iload_n C 1 dX4_on_16 rfl rfl ?_
    refine g_zald hf C rfl (Nat.le_of_ble_eq_true rfl) dX4_on_17 (fun hf => ?_)
    refine g_if_ne (tgt := 27) hf C dX4_on_18 (by decide) (fun hf => ?_) (fun hf => ?_)
    · refine g_aload_n C 0 dX4_on_27 rfl rfl ?_
      refine g_getC (n := 2) C in_X4_on_X4 (k := 5) lk_X4_on_0 rfl (Nat.le_of_ble_eq_true rfl) rfl (Nat.le_of_ble_eq_true rfl) rfl dX4_on_28 ?_
      refine g_iload_n C 1 dX4_on_31 rfl rfl ?_
      obtain ⟨r4, σ5, hc3, hf⟩ := g_pbind hf
      refine g_callVv C (mX0_restore l0 D0 K0 h σ a1 hc3) gX4_on_X0_restore rfl rfl rfl ddX0_restore ⟨(Nat.le_of_ble_eq_true rfl), (Nat.le_of_ble_eq_true rfl)⟩ rfl (Nat.le_of_ble_eq_true rfl) rfl rfl rfl (Nat.le_of_ble_eq_true rfl) dX4_on_32 ?_
      refine g_aload_n C 0 dX4_on_35 rfl rfl ?_
      refine g_getC (n := 2) C in_X4_on_X4 (k := 5) lk_X4_on_0 rfl (Nat.le_of_ble_eq_true rfl) rfl (Nat.le_of_ble_eq_true rfl) rfl dX4_on_36 ?_
      refine g_aload_n C 0 dX4_on_39 rfl rfl ?_
      refine g_getR C in_X4_on_X4 (k := 8) lk_X4_on_2 rfl (Nat.le_of_ble_eq_true rfl) rfl (Nat.le_of_ble_eq_true rfl) rfl dX4_on_40 ?_
      obtain ⟨hg6, hf⟩ := g_guard hf
      refine g_getI C in_X4_on_X3 (k := 1) lk_X4_on_3 rfl (Nat.le_of_ble_eq_true rfl) (shV hg6) (ltV hg6) rfl dX4_on_43 ?_
      obtain ⟨r8, hc7, hf⟩ := g_bind hf
      refine g_callVi C (mX0_howManyPaid l0 D0 K0 h σ5 (pI σ5 (pR σ5 0 8) 1) hc7) gX4_on_X0_howManyPaid rfl rfl rfl ddX0_howManyPaid ⟨(Nat.le_of_ble_eq_true rfl), (Nat.le_of_ble_eq_true rfl)⟩ rfl (Nat.le_of_ble_eq_true rfl) rfl rfl rfl (Nat.le_of_ble_eq_true rfl) dX4_on_46 ?_
      exact g_retiW hf hret dX4_on_49
    · refine g_aload_n C 0 dX4_on_21 rfl rfl ?_
      refine g_iconst C dX4_on_22 ic_1 ?_
      obtain ⟨r10, σ11, hc9, hf⟩ := g_pbind hf
      refine g_callVi C (mX4_find l0 D0 K0 h σ (1 : Int32) hc9) gX4_on_X4_find rfl rfl rfl ddX4_find ⟨(Nat.le_of_ble_eq_true rfl), (Nat.le_of_ble_eq_true rfl)⟩ rfl (Nat.le_of_ble_eq_true rfl) rfl rfl rfl (Nat.le_of_ble_eq_true rfl) dX4_on_23 ?_
      exact g_retiW hf hret dX4_on_26
  · refine g_iconst C dX4_on_7 ic_m1 ?_
    exact g_retiW hf hret dX4_on_8
/-! X4_mustBeOut -/
theorem in_X4_mustBeOut_X3 : ∀ q ∈ u_ws RX3 TX3 11, q ∈ wsX4_mustBeOut := by decide +kernel
theorem in_X4_mustBeOut_X4 : ∀ q ∈ u_ws RX4 TX4 13, q ∈ wsX4_mustBeOut := by decide +kernel
theorem lk_X4_mustBeOut_0 : Cond.fieldLink RX4 53 "EmptyHouse" "live" "LEmptyHouse$Village;" ∈ wsX4_mustBeOut := by decide +kernel
theorem lk_X4_mustBeOut_1 : Cond.fieldLink RX4 184 "EmptyHouse$Village" "debts" "I" ∈ wsX4_mustBeOut := by decide +kernel
theorem lk_X4_mustBeOut_2 : Cond.fieldLink RX4 268 "EmptyHouse$Village" "debtor" "[I" ∈ wsX4_mustBeOut := by decide +kernel
theorem lk_X4_mustBeOut_3 : Cond.fieldLink RX4 331 "EmptyHouse$Village" "creditor" "[I" ∈ wsX4_mustBeOut := by decide +kernel
theorem ddX4_mustBeOut : yX4_mustBeOut.cls = RX4 ∧ yX4_mustBeOut.cls ≠ "java/lang/invoke/MethodHandle" ∧ yX4_mustBeOut.cls ≠ "java/lang/invoke/VarHandle" ∧ (parseMethodDescriptor yX4_mustBeOut.desc).map (fun d => d.parameters.length) = some 2 := by decide +kernel
set_option maxHeartbeats 4000000 in
set_option maxRecDepth 100000 in
theorem lX4_mustBeOut_5_ok {h : Nat → Nat} {X : Cx} {l0 : Launch} {D0 : va_G} {K0 : Nat → ClassId} (σ : pS) (p1 : Nat) (p2 : Int32) {k76 : Int32 → Option Int32} {r : Int32} (C : Cok wX h X l0 ({ frames := 1, cells := 0, slots := 0, locals := 22 } : Room) D0 K0 cX4_mustBeOut 5 RX4 wsX4_mustBeOut) (hret : ∀ (pc : Nat) (lv' : List (Nat × Value)), decode cX4_mustBeOut pc = .ok (.ireturn, 1) → G wX h X pc lv' [.int r] σ) (hk76 : ∀ (z3 : Int32), k76 z3 = some r → G wX h X 76 [(3, .int z3)] [] σ) : ∀ (F : Nat) (v3 : Int32) (v4 : Int32), lX4_mustBeOut_5 σ p1 p2 k76 F v3 v4 = some r → G wX h X 5 [(0, .ref (h 0)), (1, .ref (h p1)), (2, .int p2), (3, .int v3), (4, .int v4)] [] σ := by
  intro F
  induction F with
  | zero => intro v3 v4 hf; exact absurd hf (by simp [lX4_mustBeOut_5])
  | succ F ih =>
    intro v3 v4 hf
    rw [lX4_mustBeOut_5.eq_2] at hf
    refine g_iload C 4 dX4_mustBeOut_5 rfl ?_
    refine g_aload_n C 0 dX4_mustBeOut_7 rfl rfl ?_
    refine g_getR C in_X4_mustBeOut_X4 (k := 8) lk_X4_mustBeOut_0 rfl (Nat.le_of_ble_eq_true rfl) rfl (Nat.le_of_ble_eq_true rfl) rfl dX4_mustBeOut_8 ?_
    obtain ⟨hg1, hf⟩ := g_guard hf
    refine g_getI C in_X4_mustBeOut_X3 (k := 1) lk_X4_mustBeOut_1 rfl (Nat.le_of_ble_eq_true rfl) (shV hg1) (ltV hg1) rfl dX4_mustBeOut_11 ?_
    refine g_icmp_ge (tgt := 76) hf C dX4_mustBeOut_14 (by decide) (fun hf => ?_) (fun hf => ?_)
    · refine g_lv [3] rfl ?_
      exact hk76 v3 hf
    · refine g_aload_n C 1 dX4_mustBeOut_17 rfl rfl ?_
      refine g_iload C 4 dX4_mustBeOut_18 rfl ?_
      obtain ⟨hg2, hf⟩ := g_guard hf
      obtain ⟨b3, he4, hl5⟩ := isA_spec hg2
      refine g_iald hf C he4 hl5 dX4_mustBeOut_20 (fun hf => ?_)
      refine g_bipush C dX4_mustBeOut_21 bp_m9 ?_
      refine g_icmp_eq (tgt := 70) hf C dX4_mustBeOut_23 (by decide) (fun hf => ?_) (fun hf => ?_)
      · refine g_iinc C 4 [1, 2, 3, 4, 0] dX4_mustBeOut_70 rfl ic_1 (Nat.le_of_ble_eq_true rfl) rfl ?_
        refine g_goto (tgt := 5) C dX4_mustBeOut_73 (by decide) ?_
        exact ih v3 (v4 + (1 : Int32)) hf
      · refine g_aload_n C 0 dX4_mustBeOut_26 rfl rfl ?_
        refine g_getR C in_X4_mustBeOut_X4 (k := 8) lk_X4_mustBeOut_0 rfl (Nat.le_of_ble_eq_true rfl) rfl (Nat.le_of_ble_eq_true rfl) rfl dX4_mustBeOut_27 ?_
        refine g_getC (n := (pR σ 0 8) + 5) C in_X4_mustBeOut_X3 (k := 7) lk_X4_mustBeOut_2 rfl (Nat.le_of_ble_eq_true rfl) (shV hg1) (ltV hg1) rfl dX4_mustBeOut_30 ?_
        refine g_iload C 4 dX4_mustBeOut_33 rfl ?_
        refine g_iald hf C (shV5 hg1).1 (shV5 hg1).2 dX4_mustBeOut_35 (fun hf => ?_)
        refine g_iload_n C 2 dX4_mustBeOut_36 rfl rfl ?_
        refine g_join (P := fun j => j = some r → G wX h X 61 [(0, .ref (h 0)), (1, .ref (h p1)), (2, .int p2), (3, .int v3), (4, .int v4)] [] σ) hf (fun hf => ?_) (fun j6 hj6 hf => ?_)
        · refine g_iload_n C 3 dX4_mustBeOut_61 rfl rfl ?_
          refine g_iconst C dX4_mustBeOut_62 ic_1 ?_
          refine g_aload_n C 1 dX4_mustBeOut_63 rfl rfl ?_
          refine g_iload C 4 dX4_mustBeOut_64 rfl ?_
          refine g_iald hf C he4 hl5 dX4_mustBeOut_66 (fun hf => ?_)
          refine g_ishl C dX4_mustBeOut_67 ?_
          refine g_ior C dX4_mustBeOut_68 ?_
          refine g_leti hf (fun x7 hf => ?_)
          refine g_istore_n C [1, 2, 3, 0, 4] dX4_mustBeOut_69 rfl (Nat.le_of_ble_eq_true rfl) rfl ?_
          refine g_iinc C 4 [1, 2, 3, 4, 0] dX4_mustBeOut_70 rfl ic_1 (Nat.le_of_ble_eq_true rfl) rfl ?_
          refine g_goto (tgt := 5) C dX4_mustBeOut_73 (by decide) ?_
          exact ih x7 (v4 + (1 : Int32)) hf
        · refine g_icmp_eq (tgt := 61) hf C dX4_mustBeOut_37 (by decide) (fun hf => ?_) (fun hf => ?_)
          · exact hj6 hf
          · refine g_aload_n C 0 dX4_mustBeOut_40 rfl rfl ?_
            refine g_getR C in_X4_mustBeOut_X4 (k := 8) lk_X4_mustBeOut_0 rfl (Nat.le_of_ble_eq_true rfl) rfl (Nat.le_of_ble_eq_true rfl) rfl dX4_mustBeOut_41 ?_
            refine g_aload_n C 0 dX4_mustBeOut_44 rfl rfl ?_
            refine g_getR C in_X4_mustBeOut_X4 (k := 8) lk_X4_mustBeOut_0 rfl (Nat.le_of_ble_eq_true rfl) rfl (Nat.le_of_ble_eq_true rfl) rfl dX4_mustBeOut_45 ?_
            refine g_getC (n := (pR σ 0 8) + 6) C in_X4_mustBeOut_X3 (k := 8) lk_X4_mustBeOut_3 rfl (Nat.le_of_ble_eq_true rfl) (shV hg1) (ltV hg1) rfl dX4_mustBeOut_48 ?_
            refine g_iload C 4 dX4_mustBeOut_51 rfl ?_
            refine g_iald hf C (shV6 hg1).1 (shV6 hg1).2 dX4_mustBeOut_53 (fun hf => ?_)
            refine g_iload_n C 2 dX4_mustBeOut_54 rfl rfl ?_
            obtain ⟨r9, hc8, hf⟩ := g_bind hf
            refine g_callVi C (mX3_provesOut l0 D0 K0 h σ (pR σ 0 8) (pI σ ((pR σ 0 8) + 6) (v4).toNatClampNeg) p2 hc8) gX4_mustBeOut_X3_provesOut rfl rfl rfl ddX3_provesOut ⟨(Nat.le_of_ble_eq_true rfl), (Nat.le_of_ble_eq_true rfl)⟩ (shV hg1) (ltV hg1) rfl rfl rfl (Nat.le_of_ble_eq_true rfl) dX4_mustBeOut_55 ?_
            refine g_if_eq (tgt := 70) hf C dX4_mustBeOut_58 (by decide) (fun hf => ?_) (fun hf => ?_)
            · refine g_iinc C 4 [1, 2, 3, 4, 0] dX4_mustBeOut_70 rfl ic_1 (Nat.le_of_ble_eq_true rfl) rfl ?_
              refine g_goto (tgt := 5) C dX4_mustBeOut_73 (by decide) ?_
              exact ih v3 (v4 + (1 : Int32)) hf
            · exact hj6 hf
set_option maxHeartbeats 4000000 in
set_option maxRecDepth 100000 in
theorem mX4_mustBeOut (l0 : Launch) (D0 : va_G) (K0 : Nat → ClassId) (h : Nat → Nat) (σ : pS) (a1 : Nat) (a2 : Int32) {r : Int32} (hf : fX4_mustBeOut σ a1 a2 = some r) : Met l0 yX4_mustBeOut wsX4_mustBeOut ({ frames := 1, cells := 0, slots := 0, locals := 22 } : Room) (va_Pc [.ref (h 0), .ref (h a1), .int a2] (pIn wX D0 K0 h σ)) (va_Qi (fun r' u' => r' = r ∧ u' = σ) (pOut wX D0 K0 h) (pA wX h)) 0 0 (pA wX h) := by
  refine p_metI (lv := [(0, .ref (h 0)), (1, .ref (h a1)), (2, .int a2)]) (by decide +kernel) rfl rfl (Nat.le_of_ble_eq_true rfl) rfl (fun X C hret => ?_)
  unfold fX4_mustBeOut at hf
  refine g_iconst C dX4_mustBeOut_0 ic_0 ?_
  refine g_istore_n C [1, 2, 3, 0] dX4_mustBeOut_1 rfl (Nat.le_of_ble_eq_true rfl) rfl ?_
  refine g_iconst C dX4_mustBeOut_2 ic_0 ?_
  refine g_istore C [1, 2, 3, 4, 0] dX4_mustBeOut_3 (Nat.le_of_ble_eq_true rfl) rfl ?_
  refine lX4_mustBeOut_5_ok σ a1 a2 C hret (fun y10 hf => ?_) FU (0 : Int32) (0 : Int32) hf
  refine g_iload_n C 0 dX4_mustBeOut_76 rfl rfl ?_
  exact g_reti hf hret dX4_mustBeOut_77
/-! X4_must -/
theorem in_X4_must_X4 : ∀ q ∈ u_ws RX4 TX4 13, q ∈ wsX4_must := by decide +kernel
theorem lk_X4_must_0 : Cond.fieldLink RX4 53 "EmptyHouse" "live" "LEmptyHouse$Village;" ∈ wsX4_must := by decide +kernel
theorem lk_X4_must_1 : Cond.fieldLink RX4 11 "EmptyHouse" "rows" "[[I" ∈ wsX4_must := by decide +kernel
theorem ddX4_must : yX4_must.cls = RX4 ∧ yX4_must.cls ≠ "java/lang/invoke/MethodHandle" ∧ yX4_must.cls ≠ "java/lang/invoke/VarHandle" ∧ (parseMethodDescriptor yX4_must.desc).map (fun d => d.parameters.length) = some 2 := by decide +kernel
set_option maxHeartbeats 4000000 in
set_option maxRecDepth 100000 in
theorem mX4_must (l0 : Launch) (D0 : va_G) (K0 : Nat → ClassId) (h : Nat → Nat) (σ : pS) (a1 : Int32) (a2 : Int32) {r : Int32} {u : pS} (hf : fX4_must σ a1 a2 = some (r, u)) : Met l0 yX4_must wsX4_must ({ frames := 2, cells := 0, slots := 0, locals := 46 } : Room) (va_Pc [.ref (h 0), .int a1, .int a2] (pIn wX D0 K0 h σ)) (va_Qi (fun r' u' => r' = r ∧ u' = u) (pOut wX D0 K0 h) (pA wX h)) 0 0 (pA wX h) := by
  refine p_metI (lv := [(0, .ref (h 0)), (1, .int a1), (2, .int a2)]) (by decide +kernel) rfl rfl (Nat.le_of_ble_eq_true rfl) rfl (fun X C hret => ?_)
  unfold fX4_must at hf
  refine g_aload_n C 0 dX4_must_0 rfl rfl ?_
  refine g_getR C in_X4_must_X4 (k := 8) lk_X4_must_0 rfl (Nat.le_of_ble_eq_true rfl) rfl (Nat.le_of_ble_eq_true rfl) rfl dX4_must_1 ?_
  refine g_iload_n C 2 dX4_must_4 rfl rfl ?_
  obtain ⟨hg1, hf⟩ := g_guard hf
  obtain ⟨r3, hc2, hf⟩ := g_bind hf
  refine g_callVi C (mX3_isPerson l0 D0 K0 h σ (pR σ 0 8) a2 hc2) gX4_must_X3_isPerson rfl rfl rfl ddX3_isPerson ⟨(Nat.le_of_ble_eq_true rfl), (Nat.le_of_ble_eq_true rfl)⟩ (shV hg1) (ltV hg1) rfl rfl rfl (Nat.le_of_ble_eq_true rfl) dX4_must_5 ?_
  refine g_if_ne (tgt := 13) hf C dX4_must_8 (by decide) (fun hf => ?_) (fun hf => ?_)
  · refine g_aload_n C 0 dX4_must_13 rfl rfl ?_
    refine g_iload_n C 1 dX4_must_14 rfl rfl ?_
    obtain ⟨r5, σ6, hc4, hf⟩ := g_pbind hf
    refine g_callVi C (mX4_refuseRound l0 D0 K0 h σ a1 hc4) gX4_must_X4_refuseRound rfl rfl rfl ddX4_refuseRound ⟨(Nat.le_of_ble_eq_true rfl), (Nat.le_of_ble_eq_true rfl)⟩ rfl (Nat.le_of_ble_eq_true rfl) rfl rfl rfl (Nat.le_of_ble_eq_true rfl) dX4_must_15 ?_
    refine g_istore_n C [1, 2, 3, 0] dX4_must_18 rfl (Nat.le_of_ble_eq_true rfl) rfl ?_
    refine g_iload_n C 3 dX4_must_19 rfl rfl ?_
    refine g_if_eq (tgt := 25) hf C dX4_must_20 (by decide) (fun hf => ?_) (fun hf => ?_)
    · refine g_aload_n C 0 dX4_must_25 rfl rfl ?_
      refine g_aload_n C 0 dX4_must_26 rfl rfl ?_
      refine g_getC (n := 4) C in_X4_must_X4 (k := 0) lk_X4_must_1 rfl (Nat.le_of_ble_eq_true rfl) rfl (Nat.le_of_ble_eq_true rfl) rfl dX4_must_27 ?_
      refine g_iload_n C 1 dX4_must_30 rfl rfl ?_
      refine g_aald hf C rfl (by decide) (Nat.le_of_ble_eq_true rfl) dX4_must_31 (fun hp7 hf => ?_)
      refine g_iload_n C 2 dX4_must_32 rfl rfl ?_
      obtain ⟨r9, hc8, hf⟩ := g_bind hf
      refine g_callVi C (mX4_mustBeOut l0 D0 K0 h σ6 (20 + (a1).toNatClampNeg) a2 hc8) gX4_must_X4_mustBeOut rfl rfl rfl ddX4_mustBeOut ⟨(Nat.le_of_ble_eq_true rfl), (Nat.le_of_ble_eq_true rfl)⟩ rfl (Nat.le_of_ble_eq_true rfl) rfl rfl rfl (Nat.le_of_ble_eq_true rfl) dX4_must_33 ?_
      exact g_retiW hf hret dX4_must_36
    · refine g_iload_n C 3 dX4_must_23 rfl rfl ?_
      exact g_retiW hf hret dX4_must_24
  · refine g_iconst C dX4_must_11 ic_m1 ?_
    exact g_retiW hf hret dX4_must_12
/-! X4_liars -/
theorem in_X4_liars_X3 : ∀ q ∈ u_ws RX3 TX3 11, q ∈ wsX4_liars := by decide +kernel
theorem in_X4_liars_X4 : ∀ q ∈ u_ws RX4 TX4 13, q ∈ wsX4_liars := by decide +kernel
theorem lk_X4_liars_0 : Cond.fieldLink RX4 53 "EmptyHouse" "live" "LEmptyHouse$Village;" ∈ wsX4_liars := by decide +kernel
theorem lk_X4_liars_1 : Cond.fieldLink RX4 124 "EmptyHouse$Village" "people" "I" ∈ wsX4_liars := by decide +kernel
theorem lk_X4_liars_2 : Cond.fieldLink RX4 11 "EmptyHouse" "rows" "[[I" ∈ wsX4_liars := by decide +kernel
theorem lk_X4_liars_3 : Cond.fieldLink RX4 155 "EmptyHouse$Village" "out" "[I" ∈ wsX4_liars := by decide +kernel
theorem lk_X4_liars_4 : Cond.fieldLink RX4 57 "EmptyHouse" "told" "I" ∈ wsX4_liars := by decide +kernel
theorem ddX4_liars : yX4_liars.cls = RX4 ∧ yX4_liars.cls ≠ "java/lang/invoke/MethodHandle" ∧ yX4_liars.cls ≠ "java/lang/invoke/VarHandle" ∧ (parseMethodDescriptor yX4_liars.desc).map (fun d => d.parameters.length) = some 1 := by decide +kernel
set_option maxHeartbeats 4000000 in
set_option maxRecDepth 100000 in
theorem lX4_liars_20_ok {h : Nat → Nat} {X : Cx} {l0 : Launch} {D0 : va_G} {K0 : Nat → ClassId} (σ : pS) (p1 : Int32) {k87 : Int32 → Int32 → Option (Int32 × pS)} {r : Int32} {u : pS} (C : Cok wX h X l0 ({ frames := 2, cells := 0, slots := 0, locals := 46 } : Room) D0 K0 cX4_liars 7 RX4 wsX4_liars) (hret : ∀ (pc : Nat) (lv' : List (Nat × Value)), decode cX4_liars pc = .ok (.ireturn, 1) → G wX h X pc lv' [.int r] u) (hk87 : ∀ (z3 : Int32) (z4 : Int32), k87 z3 z4 = some (r, u) → G wX h X 87 [(0, .ref (h 0)), (3, .int z3), (4, .int z4)] [] σ) : ∀ (F : Nat) (v3 : Int32) (v4 : Int32) (v5 : Int32), lX4_liars_20 σ p1 k87 F v3 v4 v5 = some (r, u) → G wX h X 20 [(0, .ref (h 0)), (1, .int p1), (3, .int v3), (4, .int v4), (5, .int v5)] [] σ := by
  intro F
  induction F with
  | zero => intro v3 v4 v5 hf; exact absurd hf (by simp [lX4_liars_20])
  | succ F ih =>
    intro v3 v4 v5 hf
    rw [lX4_liars_20.eq_2] at hf
    refine g_iload C 4 dX4_liars_20 rfl ?_
    refine g_aload_n C 0 dX4_liars_22 rfl rfl ?_
    refine g_getR C in_X4_liars_X4 (k := 8) lk_X4_liars_0 rfl (Nat.le_of_ble_eq_true rfl) rfl (Nat.le_of_ble_eq_true rfl) rfl dX4_liars_23 ?_
    obtain ⟨hg4, hf⟩ := g_guard hf
    refine g_getI C in_X4_liars_X3 (k := 0) lk_X4_liars_1 rfl (Nat.le_of_ble_eq_true rfl) (shV hg4) (ltV hg4) rfl dX4_liars_26 ?_
    refine g_icmp_ge (tgt := 87) hf C dX4_liars_29 (by decide) (fun hf => ?_) (fun hf => ?_)
    · refine g_lv [0, 2, 3] rfl ?_
      exact hk87 v3 v4 hf
    · refine g_aload_n C 0 dX4_liars_32 rfl rfl ?_
      refine g_aload_n C 0 dX4_liars_33 rfl rfl ?_
      refine g_getC (n := 4) C in_X4_liars_X4 (k := 0) lk_X4_liars_2 rfl (Nat.le_of_ble_eq_true rfl) rfl (Nat.le_of_ble_eq_true rfl) rfl dX4_liars_34 ?_
      refine g_iload_n C 1 dX4_liars_37 rfl rfl ?_
      refine g_aald hf C rfl (by decide) (Nat.le_of_ble_eq_true rfl) dX4_liars_38 (fun hp5 hf => ?_)
      refine g_iload C 4 dX4_liars_39 rfl ?_
      obtain ⟨r7, hc6, hf⟩ := g_bind hf
      refine g_callVi C (mX4_mustBeOut l0 D0 K0 h σ (20 + (p1).toNatClampNeg) v5 hc6) gX4_liars_X4_mustBeOut rfl rfl rfl ddX4_mustBeOut ⟨(Nat.le_of_ble_eq_true rfl), (Nat.le_of_ble_eq_true rfl)⟩ rfl (Nat.le_of_ble_eq_true rfl) rfl rfl rfl (Nat.le_of_ble_eq_true rfl) dX4_liars_41 ?_
      refine g_aload_n C 0 dX4_liars_44 rfl rfl ?_
      refine g_getR C in_X4_liars_X4 (k := 8) lk_X4_liars_0 rfl (Nat.le_of_ble_eq_true rfl) rfl (Nat.le_of_ble_eq_true rfl) rfl dX4_liars_45 ?_
      refine g_getC (n := (pR σ 0 8) + 3) C in_X4_liars_X3 (k := 5) lk_X4_liars_3 rfl (Nat.le_of_ble_eq_true rfl) (shV hg4) (ltV hg4) rfl dX4_liars_48 ?_
      refine g_iload C 4 dX4_liars_51 rfl ?_
      refine g_iald hf C (shV3 hg4).1 (shV3 hg4).2 dX4_liars_53 (fun hf => ?_)
      refine g_iconst C dX4_liars_54 ic_m1 ?_
      refine g_ixor C dX4_liars_55 ?_
      refine g_iand C dX4_liars_56 ?_
      refine g_leti hf (fun x8 hf => ?_)
      refine g_istore C [1, 2, 3, 4, 5, 0] dX4_liars_57 (Nat.le_of_ble_eq_true rfl) rfl ?_
      refine g_iload C 5 dX4_liars_59 rfl ?_
      refine g_if_eq (tgt := 81) hf C dX4_liars_61 (by decide) (fun hf => ?_) (fun hf => ?_)
      · refine g_iinc C 4 [1, 2, 3, 4, 0] dX4_liars_81 rfl ic_1 (Nat.le_of_ble_eq_true rfl) rfl ?_
        refine g_goto (tgt := 20) C dX4_liars_84 (by decide) ?_
        exact ih v3 v4 (v5 + (1 : Int32)) hf
      · refine g_iload_n C 2 dX4_liars_64 rfl rfl ?_
        refine g_iconst C dX4_liars_65 ic_1 ?_
        refine g_iload C 4 dX4_liars_66 rfl ?_
        refine g_ishl C dX4_liars_68 ?_
        refine g_ior C dX4_liars_69 ?_
        refine g_leti hf (fun x9 hf => ?_)
        refine g_istore_n C [1, 2, 0, 3, 4, 5] dX4_liars_70 rfl (Nat.le_of_ble_eq_true rfl) rfl ?_
        refine g_iload C 3 dX4_liars_71 rfl ?_
        refine g_iload C 5 dX4_liars_73 rfl ?_
        obtain ⟨r11, hc10, hf⟩ := g_bind hf
        refine g_callSi C (mJ6_bitCount_0f7a4 l0 D0 K0 h σ x8 hc10) gX4_liars_J6_bitCount_0f7a4 rfl rfl rfl ddJ6_bitCount_0f7a4 ⟨(Nat.le_of_ble_eq_true rfl), (Nat.le_of_ble_eq_true rfl)⟩ rfl rfl (Nat.le_of_ble_eq_true rfl) dX4_liars_75 ?_
        refine g_iadd C dX4_liars_78 ?_
        refine g_leti hf (fun x12 hf => ?_)
        refine g_istore C [1, 2, 3, 0, 4] dX4_liars_79 (Nat.le_of_ble_eq_true rfl) rfl ?_
        refine g_iinc C 4 [1, 2, 3, 4, 0] dX4_liars_81 rfl ic_1 (Nat.le_of_ble_eq_true rfl) rfl ?_
        refine g_goto (tgt := 20) C dX4_liars_84 (by decide) ?_
        exact ih x9 x12 (v5 + (1 : Int32)) hf
set_option maxHeartbeats 4000000 in
set_option maxRecDepth 100000 in
theorem mX4_liars (l0 : Launch) (D0 : va_G) (K0 : Nat → ClassId) (h : Nat → Nat) (σ : pS) (a1 : Int32) {r : Int32} {u : pS} (hf : fX4_liars σ a1 = some (r, u)) : Met l0 yX4_liars wsX4_liars ({ frames := 2, cells := 0, slots := 0, locals := 46 } : Room) (va_Pc [.ref (h 0), .int a1] (pIn wX D0 K0 h σ)) (va_Qi (fun r' u' => r' = r ∧ u' = u) (pOut wX D0 K0 h) (pA wX h)) 0 0 (pA wX h) := by
  refine p_metI (lv := [(0, .ref (h 0)), (1, .int a1)]) (by decide +kernel) rfl rfl (Nat.le_of_ble_eq_true rfl) rfl (fun X C hret => ?_)
  unfold fX4_liars at hf
  refine g_aload_n C 0 dX4_liars_0 rfl rfl ?_
  refine g_iload_n C 1 dX4_liars_1 rfl rfl ?_
  obtain ⟨r2, σ3, hc1, hf⟩ := g_pbind hf
  refine g_callVi C (mX4_refuseRound l0 D0 K0 h σ a1 hc1) gX4_liars_X4_refuseRound rfl rfl rfl ddX4_refuseRound ⟨(Nat.le_of_ble_eq_true rfl), (Nat.le_of_ble_eq_true rfl)⟩ rfl (Nat.le_of_ble_eq_true rfl) rfl rfl rfl (Nat.le_of_ble_eq_true rfl) dX4_liars_2 ?_
  refine g_istore_n C [1, 2, 0] dX4_liars_5 rfl (Nat.le_of_ble_eq_true rfl) rfl ?_
  refine g_iload_n C 2 dX4_liars_6 rfl rfl ?_
  refine g_if_eq (tgt := 12) hf C dX4_liars_7 (by decide) (fun hf => ?_) (fun hf => ?_)
  · refine g_iconst C dX4_liars_12 ic_0 ?_
    refine g_istore_n C [1, 2, 0] dX4_liars_13 rfl (Nat.le_of_ble_eq_true rfl) rfl ?_
    refine g_iconst C dX4_liars_14 ic_0 ?_
    refine g_istore C [1, 2, 3, 0] dX4_liars_15 (Nat.le_of_ble_eq_true rfl) rfl ?_
    refine g_iconst C dX4_liars_17 ic_0 ?_
    refine g_istore C [1, 2, 3, 4, 0] dX4_liars_18 (Nat.le_of_ble_eq_true rfl) rfl ?_
    refine lX4_liars_20_ok σ3 a1 C hret (fun y13 y14 hf => ?_) FU (0 : Int32) (0 : Int32) (0 : Int32) hf
    refine g_aload_n C 0 dX4_liars_87 rfl rfl ?_
    refine g_iload C 2 dX4_liars_88 rfl ?_
    refine g_putI C in_X4_liars_X4 (k := 9) lk_X4_liars_4 rfl (Nat.le_of_ble_eq_true rfl) rfl (Nat.le_of_ble_eq_true rfl) tyX4 tyX4_ok nmX4 rfl rfl rfl rfl dX4_liars_90 ?_
    refine g_lets hf (fun σ15 hf => ?_)
    refine g_iload_n C 1 dX4_liars_93 rfl rfl ?_
    exact g_retiW hf hret dX4_liars_94
  · refine g_iload_n C 2 dX4_liars_10 rfl rfl ?_
    exact g_retiW hf hret dX4_liars_11
/-! X4_asked -/
theorem in_X4_asked_X4 : ∀ q ∈ u_ws RX4 TX4 13, q ∈ wsX4_asked := by decide +kernel
theorem lk_X4_asked_0 : Cond.fieldLink RX4 57 "EmptyHouse" "told" "I" ∈ wsX4_asked := by decide +kernel
theorem ddX4_asked : yX4_asked.cls = RX4 ∧ yX4_asked.cls ≠ "java/lang/invoke/MethodHandle" ∧ yX4_asked.cls ≠ "java/lang/invoke/VarHandle" ∧ (parseMethodDescriptor yX4_asked.desc).map (fun d => d.parameters.length) = some 0 := by decide +kernel
set_option maxHeartbeats 4000000 in
set_option maxRecDepth 100000 in
theorem mX4_asked (l0 : Launch) (D0 : va_G) (K0 : Nat → ClassId) (h : Nat → Nat) (σ : pS)  {r : Int32} (hf : fX4_asked σ = some r) : Met l0 yX4_asked wsX4_asked ({ frames := 0, cells := 0, slots := 0, locals := 0 } : Room) (va_Pc [.ref (h 0)] (pIn wX D0 K0 h σ)) (va_Qi (fun r' u' => r' = r ∧ u' = σ) (pOut wX D0 K0 h) (pA wX h)) 0 0 (pA wX h) := by
  refine p_metI (lv := [(0, .ref (h 0))]) (by decide +kernel) rfl rfl (Nat.le_of_ble_eq_true rfl) rfl (fun X C hret => ?_)
  unfold fX4_asked at hf
  refine g_aload_n C 0 dX4_asked_0 rfl rfl ?_
  refine g_getI C in_X4_asked_X4 (k := 9) lk_X4_asked_0 rfl (Nat.le_of_ble_eq_true rfl) rfl (Nat.le_of_ble_eq_true rfl) rfl dX4_asked_1 ?_
  exact g_reti hf hret dX4_asked_4
/-! X4_upper -/
theorem in_X4_upper_X4 : ∀ q ∈ u_ws RX4 TX4 13, q ∈ wsX4_upper := by decide +kernel
theorem lk_X4_upper_0 : Cond.fieldLink RX4 61 "EmptyHouse" "toldUpper" "J" ∈ wsX4_upper := by decide +kernel
theorem ddX4_upper : yX4_upper.cls = RX4 ∧ yX4_upper.cls ≠ "java/lang/invoke/MethodHandle" ∧ yX4_upper.cls ≠ "java/lang/invoke/VarHandle" ∧ (parseMethodDescriptor yX4_upper.desc).map (fun d => d.parameters.length) = some 0 := by decide +kernel
set_option maxHeartbeats 4000000 in
set_option maxRecDepth 100000 in
theorem mX4_upper (l0 : Launch) (D0 : va_G) (K0 : Nat → ClassId) (h : Nat → Nat) (σ : pS)  {r : Int64} (hf : fX4_upper σ = some r) : Met l0 yX4_upper wsX4_upper ({ frames := 0, cells := 0, slots := 0, locals := 0 } : Room) (va_Pc [.ref (h 0)] (pIn wX D0 K0 h σ)) (va_Ql (fun r' u' => r' = r ∧ u' = σ) (pOut wX D0 K0 h) (pA wX h)) 0 0 (pA wX h) := by
  refine p_metL (lv := [(0, .ref (h 0))]) (by decide +kernel) rfl rfl (Nat.le_of_ble_eq_true rfl) rfl (fun X C hret => ?_)
  unfold fX4_upper at hf
  refine g_aload_n C 0 dX4_upper_0 rfl rfl ?_
  refine g_getL C in_X4_upper_X4 (k := 10) lk_X4_upper_0 rfl (Nat.le_of_ble_eq_true rfl) rfl (Nat.le_of_ble_eq_true rfl) rfl dX4_upper_1 ?_
  exact g_retl hf hret dX4_upper_4
/-! X4_lower -/
theorem in_X4_lower_X4 : ∀ q ∈ u_ws RX4 TX4 13, q ∈ wsX4_lower := by decide +kernel
theorem lk_X4_lower_0 : Cond.fieldLink RX4 65 "EmptyHouse" "toldLower" "J" ∈ wsX4_lower := by decide +kernel
theorem ddX4_lower : yX4_lower.cls = RX4 ∧ yX4_lower.cls ≠ "java/lang/invoke/MethodHandle" ∧ yX4_lower.cls ≠ "java/lang/invoke/VarHandle" ∧ (parseMethodDescriptor yX4_lower.desc).map (fun d => d.parameters.length) = some 0 := by decide +kernel
set_option maxHeartbeats 4000000 in
set_option maxRecDepth 100000 in
theorem mX4_lower (l0 : Launch) (D0 : va_G) (K0 : Nat → ClassId) (h : Nat → Nat) (σ : pS)  {r : Int64} (hf : fX4_lower σ = some r) : Met l0 yX4_lower wsX4_lower ({ frames := 0, cells := 0, slots := 0, locals := 0 } : Room) (va_Pc [.ref (h 0)] (pIn wX D0 K0 h σ)) (va_Ql (fun r' u' => r' = r ∧ u' = σ) (pOut wX D0 K0 h) (pA wX h)) 0 0 (pA wX h) := by
  refine p_metL (lv := [(0, .ref (h 0))]) (by decide +kernel) rfl rfl (Nat.le_of_ble_eq_true rfl) rfl (fun X C hret => ?_)
  unfold fX4_lower at hf
  refine g_aload_n C 0 dX4_lower_0 rfl rfl ?_
  refine g_getL C in_X4_lower_X4 (k := 11) lk_X4_lower_0 rfl (Nat.le_of_ble_eq_true rfl) rfl (Nat.le_of_ble_eq_true rfl) rfl dX4_lower_1 ?_
  exact g_retl hf hret dX4_lower_4
/-! X4_howManyThere -/
theorem ddX4_howManyThere : yX4_howManyThere.cls ≠ "java/lang/invoke/MethodHandle" ∧ yX4_howManyThere.cls ≠ "java/lang/invoke/VarHandle" ∧ (parseMethodDescriptor yX4_howManyThere.desc).map (fun d => d.parameters.length) = some 1 := by decide +kernel
set_option maxHeartbeats 4000000 in
set_option maxRecDepth 100000 in
theorem lX4_howManyThere_10_ok {h : Nat → Nat} {X : Cx} {l0 : Launch} {D0 : va_G} {K0 : Nat → ClassId} (σ : pS) (p2 : Nat) (p3 : Int32) {k37 : Int32 → Option Int32} {r : Int32} (C : Cok wX h X l0 ({ frames := 0, cells := 0, slots := 0, locals := 0 } : Room) D0 K0 cX4_howManyThere 6 RX4 wsX4_howManyThere) (hret : ∀ (pc : Nat) (lv' : List (Nat × Value)), decode cX4_howManyThere pc = .ok (.ireturn, 1) → G wX h X pc lv' [.int r] σ) (hk37 : ∀ (z1 : Int32), k37 z1 = some r → G wX h X 37 [(1, .int z1)] [] σ) : ∀ (F : Nat) (v1 : Int32) (v4 : Int32), lX4_howManyThere_10 σ p2 p3 k37 F v1 v4 = some r → G wX h X 10 [(1, .int v1), (2, .ref (h p2)), (3, .int p3), (4, .int v4)] [] σ := by
  intro F
  induction F with
  | zero => intro v1 v4 hf; exact absurd hf (by simp [lX4_howManyThere_10])
  | succ F ih =>
    intro v1 v4 hf
    rw [lX4_howManyThere_10.eq_2] at hf
    refine g_iload C 3 dX4_howManyThere_10 rfl ?_
    refine g_iload_n C 2 dX4_howManyThere_12 rfl rfl ?_
    refine g_icmp_ge (tgt := 37) hf C dX4_howManyThere_13 (by decide) (fun hf => ?_) (fun hf => ?_)
    · refine g_lv [0] rfl ?_
      exact hk37 v1 hf
    · refine g_aload_n C 1 dX4_howManyThere_16 rfl rfl ?_
      refine g_iload C 3 dX4_howManyThere_17 rfl ?_
      obtain ⟨hg6, hf⟩ := g_guard hf
      obtain ⟨b7, he8, hl9⟩ := isA_spec hg6
      refine g_iald hf C he8 hl9 dX4_howManyThere_19 (fun hf => ?_)
      refine g_leti hf (fun x10 hf => ?_)
      refine g_istore C [1, 2, 3, 4, 0] dX4_howManyThere_20 (Nat.le_of_ble_eq_true rfl) rfl ?_
      refine g_iload C 4 dX4_howManyThere_22 rfl ?_
      refine g_iconst C dX4_howManyThere_24 ic_m1 ?_
      refine g_icmp_eq (tgt := 31) hf C dX4_howManyThere_25 (by decide) (fun hf => ?_) (fun hf => ?_)
      · refine g_iinc C 3 [1, 2, 3, 0] dX4_howManyThere_31 rfl ic_1 (Nat.le_of_ble_eq_true rfl) rfl ?_
        refine g_goto (tgt := 10) C dX4_howManyThere_34 (by decide) ?_
        exact ih v1 (v4 + (1 : Int32)) hf
      · refine g_iinc C 0 [0, 1, 2, 3] dX4_howManyThere_28 rfl ic_1 (Nat.le_of_ble_eq_true rfl) rfl ?_
        refine g_iinc C 3 [1, 2, 3, 0] dX4_howManyThere_31 rfl ic_1 (Nat.le_of_ble_eq_true rfl) rfl ?_
        refine g_goto (tgt := 10) C dX4_howManyThere_34 (by decide) ?_
        exact ih (v1 + (1 : Int32)) (v4 + (1 : Int32)) hf
set_option maxHeartbeats 4000000 in
set_option maxRecDepth 100000 in
theorem mX4_howManyThere (l0 : Launch) (D0 : va_G) (K0 : Nat → ClassId) (h : Nat → Nat) (σ : pS) (a1 : Nat) {r : Int32} (hf : fX4_howManyThere σ a1 = some r) : Met l0 yX4_howManyThere wsX4_howManyThere ({ frames := 0, cells := 0, slots := 0, locals := 0 } : Room) (va_Pc [.ref (h a1)] (pIn wX D0 K0 h σ)) (va_Qi (fun r' u' => r' = r ∧ u' = σ) (pOut wX D0 K0 h) (pA wX h)) 0 0 (pA wX h) := by
  refine p_metI (lv := [(0, .ref (h a1))]) (by decide +kernel) rfl rfl (Nat.le_of_ble_eq_true rfl) rfl (fun X C hret => ?_)
  unfold fX4_howManyThere at hf
  refine g_iconst C dX4_howManyThere_0 ic_0 ?_
  refine g_istore_n C [1, 0] dX4_howManyThere_1 rfl (Nat.le_of_ble_eq_true rfl) rfl ?_
  refine g_aload_n C 0 dX4_howManyThere_2 rfl rfl ?_
  refine g_astore_n C [1, 2, 0] dX4_howManyThere_3 rfl (Nat.le_of_ble_eq_true rfl) rfl ?_
  refine g_aload_n C 2 dX4_howManyThere_4 rfl rfl ?_
  obtain ⟨hg1, hf⟩ := g_guard hf
  obtain ⟨b2, he3, hl4⟩ := isA_spec hg1
  refine g_alen C he3 hl4 rfl dX4_howManyThere_5 ?_
  refine g_leti hf (fun x5 hf => ?_)
  refine g_istore_n C [1, 2, 3, 0] dX4_howManyThere_6 rfl (Nat.le_of_ble_eq_true rfl) rfl ?_
  refine g_iconst C dX4_howManyThere_7 ic_0 ?_
  refine g_istore C [1, 2, 3, 4, 0] dX4_howManyThere_8 (Nat.le_of_ble_eq_true rfl) rfl ?_
  refine g_lv [1, 2, 3, 4] rfl ?_
  refine lX4_howManyThere_10_ok σ a1 x5 C hret (fun y11 hf => ?_) FU (0 : Int32) (0 : Int32) hf
  refine g_iload_n C 0 dX4_howManyThere_37 rfl rfl ?_
  exact g_reti hf hret dX4_howManyThere_38
/-! X4_count -/
theorem in_X4_count_X3 : ∀ q ∈ u_ws RX3 TX3 11, q ∈ wsX4_count := by decide +kernel
theorem in_X4_count_X4 : ∀ q ∈ u_ws RX4 TX4 13, q ∈ wsX4_count := by decide +kernel
theorem lk_X4_count_0 : Cond.fieldLink RX4 53 "EmptyHouse" "live" "LEmptyHouse$Village;" ∈ wsX4_count := by decide +kernel
theorem lk_X4_count_1 : Cond.fieldLink RX4 124 "EmptyHouse$Village" "people" "I" ∈ wsX4_count := by decide +kernel
theorem lk_X4_count_2 : Cond.fieldLink RX4 184 "EmptyHouse$Village" "debts" "I" ∈ wsX4_count := by decide +kernel
theorem lk_X4_count_3 : Cond.fieldLink RX4 36 "EmptyHouse" "books" "LEmptyHouse$Books;" ∈ wsX4_count := by decide +kernel
theorem lk_X4_count_4 : Cond.fieldLink RX4 14 "EmptyHouse" "rowSizes" "[I" ∈ wsX4_count := by decide +kernel
theorem lk_X4_count_5 : Cond.fieldLink RX4 23 "EmptyHouse" "textSizes" "[I" ∈ wsX4_count := by decide +kernel
theorem ddX4_count : yX4_count.cls = RX4 ∧ yX4_count.cls ≠ "java/lang/invoke/MethodHandle" ∧ yX4_count.cls ≠ "java/lang/invoke/VarHandle" ∧ (parseMethodDescriptor yX4_count.desc).map (fun d => d.parameters.length) = some 1 := by decide +kernel
set_option maxHeartbeats 4000000 in
set_option maxRecDepth 100000 in
theorem mX4_count (l0 : Launch) (D0 : va_G) (K0 : Nat → ClassId) (h : Nat → Nat) (σ : pS) (a1 : Int32) {r : Int32} (hf : fX4_count σ a1 = some r) : Met l0 yX4_count wsX4_count ({ frames := 2, cells := 0, slots := 0, locals := 45 } : Room) (va_Pc [.ref (h 0), .int a1] (pIn wX D0 K0 h σ)) (va_Qi (fun r' u' => r' = r ∧ u' = σ) (pOut wX D0 K0 h) (pA wX h)) 0 0 (pA wX h) := by
  refine p_metI (lv := [(0, .ref (h 0)), (1, .int a1)]) (by decide +kernel) rfl rfl (Nat.le_of_ble_eq_true rfl) rfl (fun X C hret => ?_)
  unfold fX4_count at hf
  refine g_iload_n C 1 dX4_count_0 rfl rfl ?_
  refine g_swc hf (fun hx2 hf => ?_) (fun hn3 hf => ?_)
  · refine g_swin (tgt := 48) hx2 C dX4_count_1 (by decide) (by decide) rfl (by decide) ?_
    refine g_aload_n C 0 dX4_count_48 rfl rfl ?_
    refine g_getR C in_X4_count_X4 (k := 8) lk_X4_count_0 rfl (Nat.le_of_ble_eq_true rfl) rfl (Nat.le_of_ble_eq_true rfl) rfl dX4_count_49 ?_
    obtain ⟨hg1, hf⟩ := g_guard hf
    refine g_getI C in_X4_count_X3 (k := 0) lk_X4_count_1 rfl (Nat.le_of_ble_eq_true rfl) (shV hg1) (ltV hg1) rfl dX4_count_52 ?_
    exact g_reti hf hret dX4_count_55
  · refine g_swc hf (fun hx5 hf => ?_) (fun hn6 hf => ?_)
    · refine g_swin (tgt := 56) hx5 C dX4_count_1 (by decide) (by decide) rfl (by decide) ?_
      refine g_aload_n C 0 dX4_count_56 rfl rfl ?_
      refine g_getR C in_X4_count_X4 (k := 8) lk_X4_count_0 rfl (Nat.le_of_ble_eq_true rfl) rfl (Nat.le_of_ble_eq_true rfl) rfl dX4_count_57 ?_
      obtain ⟨hg4, hf⟩ := g_guard hf
      refine g_getI C in_X4_count_X3 (k := 1) lk_X4_count_2 rfl (Nat.le_of_ble_eq_true rfl) (shV hg4) (ltV hg4) rfl dX4_count_60 ?_
      exact g_reti hf hret dX4_count_63
    · refine g_swc hf (fun hx10 hf => ?_) (fun hn11 hf => ?_)
      · refine g_swin (tgt := 64) hx10 C dX4_count_1 (by decide) (by decide) rfl (by decide) ?_
        refine g_aload_n C 0 dX4_count_64 rfl rfl ?_
        refine g_getC (n := 2) C in_X4_count_X4 (k := 5) lk_X4_count_3 rfl (Nat.le_of_ble_eq_true rfl) rfl (Nat.le_of_ble_eq_true rfl) rfl dX4_count_65 ?_
        refine g_aload_n C 0 dX4_count_68 rfl rfl ?_
        refine g_getR C in_X4_count_X4 (k := 8) lk_X4_count_0 rfl (Nat.le_of_ble_eq_true rfl) rfl (Nat.le_of_ble_eq_true rfl) rfl dX4_count_69 ?_
        obtain ⟨hg7, hf⟩ := g_guard hf
        refine g_getI C in_X4_count_X3 (k := 1) lk_X4_count_2 rfl (Nat.le_of_ble_eq_true rfl) (shV hg7) (ltV hg7) rfl dX4_count_72 ?_
        obtain ⟨r9, hc8, hf⟩ := g_bind hf
        refine g_callVi C (mX0_howManyPaid l0 D0 K0 h σ (pI σ (pR σ 0 8) 1) hc8) gX4_count_X0_howManyPaid rfl rfl rfl ddX0_howManyPaid ⟨(Nat.le_of_ble_eq_true rfl), (Nat.le_of_ble_eq_true rfl)⟩ rfl (Nat.le_of_ble_eq_true rfl) rfl rfl rfl (Nat.le_of_ble_eq_true rfl) dX4_count_75 ?_
        exact g_reti hf hret dX4_count_78
      · refine g_swc hf (fun hx15 hf => ?_) (fun hn16 hf => ?_)
        · refine g_swin (tgt := 79) hx15 C dX4_count_1 (by decide) (by decide) rfl (by decide) ?_
          refine g_aload_n C 0 dX4_count_79 rfl rfl ?_
          refine g_getR C in_X4_count_X4 (k := 8) lk_X4_count_0 rfl (Nat.le_of_ble_eq_true rfl) rfl (Nat.le_of_ble_eq_true rfl) rfl dX4_count_80 ?_
          refine g_iconst C dX4_count_83 ic_1 ?_
          obtain ⟨hg12, hf⟩ := g_guard hf
          obtain ⟨r14, hc13, hf⟩ := g_bind hf
          refine g_callVi C (mX3_howManyOfKind l0 D0 K0 h σ (pR σ 0 8) (1 : Int32) hc13) gX4_count_X3_howManyOfKind rfl rfl rfl ddX3_howManyOfKind ⟨(Nat.le_of_ble_eq_true rfl), (Nat.le_of_ble_eq_true rfl)⟩ (shV hg12) (ltV hg12) rfl rfl rfl (Nat.le_of_ble_eq_true rfl) dX4_count_84 ?_
          exact g_reti hf hret dX4_count_87
        · refine g_swc hf (fun hx20 hf => ?_) (fun hn21 hf => ?_)
          · refine g_swin (tgt := 88) hx20 C dX4_count_1 (by decide) (by decide) rfl (by decide) ?_
            refine g_aload_n C 0 dX4_count_88 rfl rfl ?_
            refine g_getR C in_X4_count_X4 (k := 8) lk_X4_count_0 rfl (Nat.le_of_ble_eq_true rfl) rfl (Nat.le_of_ble_eq_true rfl) rfl dX4_count_89 ?_
            refine g_iconst C dX4_count_92 ic_3 ?_
            obtain ⟨hg17, hf⟩ := g_guard hf
            obtain ⟨r19, hc18, hf⟩ := g_bind hf
            refine g_callVi C (mX3_howManyOfKind l0 D0 K0 h σ (pR σ 0 8) (3 : Int32) hc18) gX4_count_X3_howManyOfKind rfl rfl rfl ddX3_howManyOfKind ⟨(Nat.le_of_ble_eq_true rfl), (Nat.le_of_ble_eq_true rfl)⟩ (shV hg17) (ltV hg17) rfl rfl rfl (Nat.le_of_ble_eq_true rfl) dX4_count_93 ?_
            exact g_reti hf hret dX4_count_96
          · refine g_swc hf (fun hx24 hf => ?_) (fun hn25 hf => ?_)
            · refine g_swin (tgt := 97) hx24 C dX4_count_1 (by decide) (by decide) rfl (by decide) ?_
              refine g_aload_n C 0 dX4_count_97 rfl rfl ?_
              refine g_getC (n := 2) C in_X4_count_X4 (k := 5) lk_X4_count_3 rfl (Nat.le_of_ble_eq_true rfl) rfl (Nat.le_of_ble_eq_true rfl) rfl dX4_count_98 ?_
              obtain ⟨r23, hc22, hf⟩ := g_bind hf
              refine g_callVi C (mX0_howManyKept l0 D0 K0 h σ hc22) gX4_count_X0_howManyKept rfl rfl rfl ddX0_howManyKept ⟨(Nat.le_of_ble_eq_true rfl), (Nat.le_of_ble_eq_true rfl)⟩ rfl (Nat.le_of_ble_eq_true rfl) rfl rfl rfl (Nat.le_of_ble_eq_true rfl) dX4_count_101 ?_
              exact g_reti hf hret dX4_count_104
            · refine g_swc hf (fun hx28 hf => ?_) (fun hn29 hf => ?_)
              · refine g_swin (tgt := 105) hx28 C dX4_count_1 (by decide) (by decide) rfl (by decide) ?_
                refine g_aload_n C 0 dX4_count_105 rfl rfl ?_
                refine g_getC (n := 5) C in_X4_count_X4 (k := 1) lk_X4_count_4 rfl (Nat.le_of_ble_eq_true rfl) rfl (Nat.le_of_ble_eq_true rfl) rfl dX4_count_106 ?_
                obtain ⟨r27, hc26, hf⟩ := g_bind hf
                refine g_callSi C (mX4_howManyThere l0 D0 K0 h σ 5 hc26) gX4_count_X4_howManyThere rfl rfl rfl ddX4_howManyThere ⟨(Nat.le_of_ble_eq_true rfl), (Nat.le_of_ble_eq_true rfl)⟩ rfl rfl (Nat.le_of_ble_eq_true rfl) dX4_count_109 ?_
                exact g_reti hf hret dX4_count_112
              · refine g_swc hf (fun hx32 hf => ?_) (fun hn33 hf => ?_)
                · refine g_swin (tgt := 113) hx32 C dX4_count_1 (by decide) (by decide) rfl (by decide) ?_
                  refine g_aload_n C 0 dX4_count_113 rfl rfl ?_
                  refine g_getC (n := 7) C in_X4_count_X4 (k := 3) lk_X4_count_5 rfl (Nat.le_of_ble_eq_true rfl) rfl (Nat.le_of_ble_eq_true rfl) rfl dX4_count_114 ?_
                  obtain ⟨r31, hc30, hf⟩ := g_bind hf
                  refine g_callSi C (mX4_howManyThere l0 D0 K0 h σ 7 hc30) gX4_count_X4_howManyThere rfl rfl rfl ddX4_howManyThere ⟨(Nat.le_of_ble_eq_true rfl), (Nat.le_of_ble_eq_true rfl)⟩ rfl rfl (Nat.le_of_ble_eq_true rfl) dX4_count_117 ?_
                  exact g_reti hf hret dX4_count_120
                · refine g_swout (tgt := 121) C dX4_count_1 (by have := lv_neT (a := 0) hn3 (by decide); have := lv_neT (a := 1) hn6 (by decide); have := lv_neT (a := 2) hn11 (by decide); have := lv_neT (a := 3) hn16 (by decide); have := lv_neT (a := 4) hn21 (by decide); have := lv_neT (a := 5) hn25 (by decide); have := lv_neT (a := 6) hn29 (by decide); have := lv_neT (a := 7) hn33 (by decide); omega) (by decide) ?_
                  refine g_iconst C dX4_count_121 ic_m1 ?_
                  exact g_reti hf hret dX4_count_122
/-! X4_finding -/
theorem in_X4_finding_X4 : ∀ q ∈ u_ws RX4 TX4 13, q ∈ wsX4_finding := by decide +kernel
theorem lk_X4_finding_0 : Cond.fieldLink RX4 68 "EmptyHouse" "latestFinding" "I" ∈ wsX4_finding := by decide +kernel
theorem ddX4_finding : yX4_finding.cls = RX4 ∧ yX4_finding.cls ≠ "java/lang/invoke/MethodHandle" ∧ yX4_finding.cls ≠ "java/lang/invoke/VarHandle" ∧ (parseMethodDescriptor yX4_finding.desc).map (fun d => d.parameters.length) = some 0 := by decide +kernel
set_option maxHeartbeats 4000000 in
set_option maxRecDepth 100000 in
theorem mX4_finding (l0 : Launch) (D0 : va_G) (K0 : Nat → ClassId) (h : Nat → Nat) (σ : pS)  {r : Int32} (hf : fX4_finding σ = some r) : Met l0 yX4_finding wsX4_finding ({ frames := 0, cells := 0, slots := 0, locals := 0 } : Room) (va_Pc [.ref (h 0)] (pIn wX D0 K0 h σ)) (va_Qi (fun r' u' => r' = r ∧ u' = σ) (pOut wX D0 K0 h) (pA wX h)) 0 0 (pA wX h) := by
  refine p_metI (lv := [(0, .ref (h 0))]) (by decide +kernel) rfl rfl (Nat.le_of_ble_eq_true rfl) rfl (fun X C hret => ?_)
  unfold fX4_finding at hf
  refine g_aload_n C 0 dX4_finding_0 rfl rfl ?_
  refine g_getI C in_X4_finding_X4 (k := 12) lk_X4_finding_0 rfl (Nat.le_of_ble_eq_true rfl) rfl (Nat.le_of_ble_eq_true rfl) rfl dX4_finding_1 ?_
  exact g_reti hf hret dX4_finding_4
/-! X4_findings -/
theorem in_X4_findings_X4 : ∀ q ∈ u_ws RX4 TX4 13, q ∈ wsX4_findings := by decide +kernel
theorem lk_X4_findings_0 : Cond.fieldLink RX4 47 "EmptyHouse" "findingCounts" "[I" ∈ wsX4_findings := by decide +kernel
theorem ddX4_findings : yX4_findings.cls = RX4 ∧ yX4_findings.cls ≠ "java/lang/invoke/MethodHandle" ∧ yX4_findings.cls ≠ "java/lang/invoke/VarHandle" ∧ (parseMethodDescriptor yX4_findings.desc).map (fun d => d.parameters.length) = some 1 := by decide +kernel
set_option maxHeartbeats 4000000 in
set_option maxRecDepth 100000 in
theorem mX4_findings (l0 : Launch) (D0 : va_G) (K0 : Nat → ClassId) (h : Nat → Nat) (σ : pS) (a1 : Int32) {r : Int32} (hf : fX4_findings σ a1 = some r) : Met l0 yX4_findings wsX4_findings ({ frames := 0, cells := 0, slots := 0, locals := 0 } : Room) (va_Pc [.ref (h 0), .int a1] (pIn wX D0 K0 h σ)) (va_Qi (fun r' u' => r' = r ∧ u' = σ) (pOut wX D0 K0 h) (pA wX h)) 0 0 (pA wX h) := by
  refine p_metI (lv := [(0, .ref (h 0)), (1, .int a1)]) (by decide +kernel) rfl rfl (Nat.le_of_ble_eq_true rfl) rfl (fun X C hret => ?_)
  unfold fX4_findings at hf
  refine g_iload_n C 1 dX4_findings_0 rfl rfl ?_
  refine g_iconst C dX4_findings_1 ic_1 ?_
  refine g_icmp_lt (tgt := 10) hf C dX4_findings_2 (by decide) (fun hf => ?_) (fun hf => ?_)
  · refine g_iconst C dX4_findings_10 ic_m1 ?_
    refine g_goto (tgt := 20) C dX4_findings_11 (by decide) ?_
    exact g_reti hf hret dX4_findings_20
  · refine g_iload_n C 1 dX4_findings_5 rfl rfl ?_
    refine g_iconst C dX4_findings_6 ic_5 ?_
    refine g_icmp_le (tgt := 14) hf C dX4_findings_7 (by decide) (fun hf => ?_) (fun hf => ?_)
    · refine g_aload_n C 0 dX4_findings_14 rfl rfl ?_
      refine g_getC (n := 8) C in_X4_findings_X4 (k := 7) lk_X4_findings_0 rfl (Nat.le_of_ble_eq_true rfl) rfl (Nat.le_of_ble_eq_true rfl) rfl dX4_findings_15 ?_
      refine g_iload_n C 1 dX4_findings_18 rfl rfl ?_
      refine g_iald hf C rfl (Nat.le_of_ble_eq_true rfl) dX4_findings_19 (fun hf => ?_)
      exact g_reti hf hret dX4_findings_20
    · refine g_iconst C dX4_findings_10 ic_m1 ?_
      refine g_goto (tgt := 20) C dX4_findings_11 (by decide) ?_
      exact g_reti hf hret dX4_findings_20
/-! X4_digestVillage -/
theorem in_X4_digestVillage_X3 : ∀ q ∈ u_ws RX3 TX3 11, q ∈ wsX4_digestVillage := by decide +kernel
theorem in_X4_digestVillage_X4 : ∀ q ∈ u_ws RX4 TX4 13, q ∈ wsX4_digestVillage := by decide +kernel
theorem lk_X4_digestVillage_0 : Cond.fieldLink RX4 53 "EmptyHouse" "live" "LEmptyHouse$Village;" ∈ wsX4_digestVillage := by decide +kernel
theorem lk_X4_digestVillage_1 : Cond.fieldLink RX4 124 "EmptyHouse$Village" "people" "I" ∈ wsX4_digestVillage := by decide +kernel
theorem lk_X4_digestVillage_2 : Cond.constantLong RX4 314 (31) ∈ wsX4_digestVillage := by decide +kernel
theorem lk_X4_digestVillage_3 : Cond.fieldLink RX4 184 "EmptyHouse$Village" "debts" "I" ∈ wsX4_digestVillage := by decide +kernel
theorem ddX4_digestVillage : yX4_digestVillage.cls = RX4 ∧ yX4_digestVillage.cls ≠ "java/lang/invoke/MethodHandle" ∧ yX4_digestVillage.cls ≠ "java/lang/invoke/VarHandle" ∧ (parseMethodDescriptor yX4_digestVillage.desc).map (fun d => d.parameters.length) = some 1 := by decide +kernel
set_option maxHeartbeats 4000000 in
set_option maxRecDepth 100000 in
theorem lX4_digestVillage_20_ok {h : Nat → Nat} {X : Cx} {l0 : Launch} {D0 : va_G} {K0 : Nat → ClassId} (σ : pS) (p5 : Int32) {k51 : Int64 → Option Int64} {r : Int64} (C : Cok wX h X l0 ({ frames := 1, cells := 0, slots := 0, locals := 22 } : Room) D0 K0 cX4_digestVillage 7 RX4 wsX4_digestVillage) (hret : ∀ (pc : Nat) (lv' : List (Nat × Value)), decode cX4_digestVillage pc = .ok (.lreturn, 1) → G wX h X pc lv' [.long r] σ) (hk51 : ∀ (z3 : Int64), k51 z3 = some r → G wX h X 51 [(0, .ref (h 0)), (3, .long z3), (5, .int p5)] [] σ) : ∀ (F : Nat) (v3 : Int64) (v6 : Int32), lX4_digestVillage_20 σ p5 k51 F v3 v6 = some r → G wX h X 20 [(0, .ref (h 0)), (3, .long v3), (5, .int p5), (6, .int v6)] [] σ := by
  intro F
  induction F with
  | zero => intro v3 v6 hf; exact absurd hf (by simp [lX4_digestVillage_20])
  | succ F ih =>
    intro v3 v6 hf
    rw [lX4_digestVillage_20.eq_2] at hf
    refine g_iload C 3 dX4_digestVillage_20 rfl ?_
    refine g_iconst C dX4_digestVillage_22 ic_3 ?_
    refine g_icmp_gt (tgt := 51) hf C dX4_digestVillage_23 (by decide) (fun hf => ?_) (fun hf => ?_)
    · refine g_lv [0, 1, 2] rfl ?_
      exact hk51 v3 hf
    · refine g_ldc2 C lk_X4_digestVillage_2 dX4_digestVillage_26 ?_
      refine g_lload_n C 1 dX4_digestVillage_29 rfl rfl ?_
      refine g_lmul C dX4_digestVillage_30 ?_
      refine g_aload_n C 0 dX4_digestVillage_31 rfl rfl ?_
      refine g_getR C in_X4_digestVillage_X4 (k := 8) lk_X4_digestVillage_0 rfl (Nat.le_of_ble_eq_true rfl) rfl (Nat.le_of_ble_eq_true rfl) rfl dX4_digestVillage_32 ?_
      refine g_iload C 2 dX4_digestVillage_35 rfl ?_
      refine g_iload C 3 dX4_digestVillage_37 rfl ?_
      obtain ⟨hg2, hf⟩ := g_guard hf
      obtain ⟨r4, hc3, hf⟩ := g_bind hf
      refine g_callVi C (mX3_ofPerson l0 D0 K0 h σ (pR σ 0 8) p5 v6 hc3) gX4_digestVillage_X3_ofPerson rfl rfl rfl ddX3_ofPerson ⟨(Nat.le_of_ble_eq_true rfl), (Nat.le_of_ble_eq_true rfl)⟩ (shV hg2) (ltV hg2) rfl rfl rfl (Nat.le_of_ble_eq_true rfl) dX4_digestVillage_39 ?_
      refine g_i2l C dX4_digestVillage_42 ?_
      refine g_ladd C dX4_digestVillage_43 ?_
      refine g_letl hf (fun x5 hf => ?_)
      refine g_lstore_n C [1, 0, 2, 3] dX4_digestVillage_44 rfl (Nat.le_of_ble_eq_true rfl) rfl ?_
      refine g_iinc C 3 [1, 2, 3, 0] dX4_digestVillage_45 rfl ic_1 (Nat.le_of_ble_eq_true rfl) rfl ?_
      refine g_goto (tgt := 20) C dX4_digestVillage_48 (by decide) ?_
      exact ih x5 (v6 + (1 : Int32)) hf
set_option maxHeartbeats 4000000 in
set_option maxRecDepth 100000 in
theorem lX4_digestVillage_5_ok {h : Nat → Nat} {X : Cx} {l0 : Launch} {D0 : va_G} {K0 : Nat → ClassId} (σ : pS) {k57 : Int64 → Option Int64} {r : Int64} (C : Cok wX h X l0 ({ frames := 1, cells := 0, slots := 0, locals := 22 } : Room) D0 K0 cX4_digestVillage 7 RX4 wsX4_digestVillage) (hret : ∀ (pc : Nat) (lv' : List (Nat × Value)), decode cX4_digestVillage pc = .ok (.lreturn, 1) → G wX h X pc lv' [.long r] σ) (hk57 : ∀ (z3 : Int64), k57 z3 = some r → G wX h X 57 [(0, .ref (h 0)), (3, .long z3)] [] σ) : ∀ (F : Nat) (v3 : Int64) (v5 : Int32), lX4_digestVillage_5 σ k57 F v3 v5 = some r → G wX h X 5 [(0, .ref (h 0)), (3, .long v3), (5, .int v5)] [] σ := by
  intro F
  induction F with
  | zero => intro v3 v5 hf; exact absurd hf (by simp [lX4_digestVillage_5])
  | succ F ih =>
    intro v3 v5 hf
    rw [lX4_digestVillage_5.eq_2] at hf
    refine g_iload C 2 dX4_digestVillage_5 rfl ?_
    refine g_aload_n C 0 dX4_digestVillage_7 rfl rfl ?_
    refine g_getR C in_X4_digestVillage_X4 (k := 8) lk_X4_digestVillage_0 rfl (Nat.le_of_ble_eq_true rfl) rfl (Nat.le_of_ble_eq_true rfl) rfl dX4_digestVillage_8 ?_
    obtain ⟨hg1, hf⟩ := g_guard hf
    refine g_getI C in_X4_digestVillage_X3 (k := 0) lk_X4_digestVillage_1 rfl (Nat.le_of_ble_eq_true rfl) (shV hg1) (ltV hg1) rfl dX4_digestVillage_11 ?_
    refine g_icmp_ge (tgt := 57) hf C dX4_digestVillage_14 (by decide) (fun hf => ?_) (fun hf => ?_)
    · refine g_lv [0, 1] rfl ?_
      exact hk57 v3 hf
    · refine g_iconst C dX4_digestVillage_17 ic_0 ?_
      refine g_istore C [1, 2, 3, 0] dX4_digestVillage_18 (Nat.le_of_ble_eq_true rfl) rfl ?_
      refine lX4_digestVillage_20_ok σ v5 C hret (fun y6 hf => ?_) FU v3 (0 : Int32) hf
      refine g_iinc C 2 [1, 2, 0] dX4_digestVillage_51 rfl ic_1 (Nat.le_of_ble_eq_true rfl) rfl ?_
      refine g_goto (tgt := 5) C dX4_digestVillage_54 (by decide) ?_
      exact ih y6 (v5 + (1 : Int32)) hf
set_option maxHeartbeats 4000000 in
set_option maxRecDepth 100000 in
theorem lX4_digestVillage_75_ok {h : Nat → Nat} {X : Cx} {l0 : Launch} {D0 : va_G} {K0 : Nat → ClassId} (σ : pS) (p5 : Int32) {k103 : Int64 → Option Int64} {r : Int64} (C : Cok wX h X l0 ({ frames := 1, cells := 0, slots := 0, locals := 22 } : Room) D0 K0 cX4_digestVillage 7 RX4 wsX4_digestVillage) (hret : ∀ (pc : Nat) (lv' : List (Nat × Value)), decode cX4_digestVillage pc = .ok (.lreturn, 1) → G wX h X pc lv' [.long r] σ) (hk103 : ∀ (z3 : Int64), k103 z3 = some r → G wX h X 103 [(0, .ref (h 0)), (3, .long z3), (5, .int p5)] [] σ) : ∀ (F : Nat) (v3 : Int64) (v6 : Int32), lX4_digestVillage_75 σ p5 k103 F v3 v6 = some r → G wX h X 75 [(0, .ref (h 0)), (3, .long v3), (5, .int p5), (6, .int v6)] [] σ := by
  intro F
  induction F with
  | zero => intro v3 v6 hf; exact absurd hf (by simp [lX4_digestVillage_75])
  | succ F ih =>
    intro v3 v6 hf
    rw [lX4_digestVillage_75.eq_2] at hf
    refine g_iload C 3 dX4_digestVillage_75 rfl ?_
    refine g_iconst C dX4_digestVillage_77 ic_4 ?_
    refine g_icmp_gt (tgt := 103) hf C dX4_digestVillage_78 (by decide) (fun hf => ?_) (fun hf => ?_)
    · refine g_lv [0, 1, 2] rfl ?_
      exact hk103 v3 hf
    · refine g_ldc2 C lk_X4_digestVillage_2 dX4_digestVillage_81 ?_
      refine g_lload_n C 1 dX4_digestVillage_84 rfl rfl ?_
      refine g_lmul C dX4_digestVillage_85 ?_
      refine g_aload_n C 0 dX4_digestVillage_86 rfl rfl ?_
      refine g_iload C 2 dX4_digestVillage_87 rfl ?_
      refine g_iload C 3 dX4_digestVillage_89 rfl ?_
      obtain ⟨r10, hc9, hf⟩ := g_bind hf
      refine g_callVi C (mX4_ofDebt l0 D0 K0 h σ p5 v6 hc9) gX4_digestVillage_X4_ofDebt rfl rfl rfl ddX4_ofDebt ⟨(Nat.le_of_ble_eq_true rfl), (Nat.le_of_ble_eq_true rfl)⟩ rfl (Nat.le_of_ble_eq_true rfl) rfl rfl rfl (Nat.le_of_ble_eq_true rfl) dX4_digestVillage_91 ?_
      refine g_i2l C dX4_digestVillage_94 ?_
      refine g_ladd C dX4_digestVillage_95 ?_
      refine g_letl hf (fun x11 hf => ?_)
      refine g_lstore_n C [1, 0, 2, 3] dX4_digestVillage_96 rfl (Nat.le_of_ble_eq_true rfl) rfl ?_
      refine g_iinc C 3 [1, 2, 3, 0] dX4_digestVillage_97 rfl ic_1 (Nat.le_of_ble_eq_true rfl) rfl ?_
      refine g_goto (tgt := 75) C dX4_digestVillage_100 (by decide) ?_
      exact ih x11 (v6 + (1 : Int32)) hf
set_option maxHeartbeats 4000000 in
set_option maxRecDepth 100000 in
theorem lX4_digestVillage_60_ok {h : Nat → Nat} {X : Cx} {l0 : Launch} {D0 : va_G} {K0 : Nat → ClassId} (σ : pS) {k109 : Int64 → Option Int64} {r : Int64} (C : Cok wX h X l0 ({ frames := 1, cells := 0, slots := 0, locals := 22 } : Room) D0 K0 cX4_digestVillage 7 RX4 wsX4_digestVillage) (hret : ∀ (pc : Nat) (lv' : List (Nat × Value)), decode cX4_digestVillage pc = .ok (.lreturn, 1) → G wX h X pc lv' [.long r] σ) (hk109 : ∀ (z3 : Int64), k109 z3 = some r → G wX h X 109 [(3, .long z3)] [] σ) : ∀ (F : Nat) (v3 : Int64) (v5 : Int32), lX4_digestVillage_60 σ k109 F v3 v5 = some r → G wX h X 60 [(0, .ref (h 0)), (3, .long v3), (5, .int v5)] [] σ := by
  intro F
  induction F with
  | zero => intro v3 v5 hf; exact absurd hf (by simp [lX4_digestVillage_60])
  | succ F ih =>
    intro v3 v5 hf
    rw [lX4_digestVillage_60.eq_2] at hf
    refine g_iload C 2 dX4_digestVillage_60 rfl ?_
    refine g_aload_n C 0 dX4_digestVillage_62 rfl rfl ?_
    refine g_getR C in_X4_digestVillage_X4 (k := 8) lk_X4_digestVillage_0 rfl (Nat.le_of_ble_eq_true rfl) rfl (Nat.le_of_ble_eq_true rfl) rfl dX4_digestVillage_63 ?_
    obtain ⟨hg8, hf⟩ := g_guard hf
    refine g_getI C in_X4_digestVillage_X3 (k := 1) lk_X4_digestVillage_3 rfl (Nat.le_of_ble_eq_true rfl) (shV hg8) (ltV hg8) rfl dX4_digestVillage_66 ?_
    refine g_icmp_ge (tgt := 109) hf C dX4_digestVillage_69 (by decide) (fun hf => ?_) (fun hf => ?_)
    · refine g_lv [1] rfl ?_
      exact hk109 v3 hf
    · refine g_iconst C dX4_digestVillage_72 ic_0 ?_
      refine g_istore C [1, 2, 3, 0] dX4_digestVillage_73 (Nat.le_of_ble_eq_true rfl) rfl ?_
      refine lX4_digestVillage_75_ok σ v5 C hret (fun y12 hf => ?_) FU v3 (0 : Int32) hf
      refine g_iinc C 2 [1, 2, 0] dX4_digestVillage_103 rfl ic_1 (Nat.le_of_ble_eq_true rfl) rfl ?_
      refine g_goto (tgt := 60) C dX4_digestVillage_106 (by decide) ?_
      exact ih y12 (v5 + (1 : Int32)) hf
set_option maxHeartbeats 4000000 in
set_option maxRecDepth 100000 in
theorem mX4_digestVillage (l0 : Launch) (D0 : va_G) (K0 : Nat → ClassId) (h : Nat → Nat) (σ : pS) (a1 : Int64) {r : Int64} (hf : fX4_digestVillage σ a1 = some r) : Met l0 yX4_digestVillage wsX4_digestVillage ({ frames := 1, cells := 0, slots := 0, locals := 22 } : Room) (va_Pc [.ref (h 0), .long a1] (pIn wX D0 K0 h σ)) (va_Ql (fun r' u' => r' = r ∧ u' = σ) (pOut wX D0 K0 h) (pA wX h)) 0 0 (pA wX h) := by
  refine p_metL (lv := [(0, .ref (h 0)), (1, .long a1)]) (by decide +kernel) rfl rfl (Nat.le_of_ble_eq_true rfl) rfl (fun X C hret => ?_)
  unfold fX4_digestVillage at hf
  refine g_lload_n C 1 dX4_digestVillage_0 rfl rfl ?_
  refine g_lstore_n C [1, 0] dX4_digestVillage_1 rfl (Nat.le_of_ble_eq_true rfl) rfl ?_
  refine g_iconst C dX4_digestVillage_2 ic_0 ?_
  refine g_istore C [1, 2, 0] dX4_digestVillage_3 (Nat.le_of_ble_eq_true rfl) rfl ?_
  refine lX4_digestVillage_5_ok σ C hret (fun y7 hf => ?_) FU a1 (0 : Int32) hf
  refine g_iconst C dX4_digestVillage_57 ic_0 ?_
  refine g_istore C [1, 2, 0] dX4_digestVillage_58 (Nat.le_of_ble_eq_true rfl) rfl ?_
  refine lX4_digestVillage_60_ok σ C hret (fun y13 hf => ?_) FU y7 (0 : Int32) hf
  refine g_lload_n C 0 dX4_digestVillage_109 rfl rfl ?_
  exact g_retl hf hret dX4_digestVillage_110
/-! X4_digestKeptBooks -/
theorem in_X4_digestKeptBooks_X0 : ∀ q ∈ u_ws RX0 TX0 3, q ∈ wsX4_digestKeptBooks := by decide +kernel
theorem in_X4_digestKeptBooks_X3 : ∀ q ∈ u_ws RX3 TX3 11, q ∈ wsX4_digestKeptBooks := by decide +kernel
theorem in_X4_digestKeptBooks_X4 : ∀ q ∈ u_ws RX4 TX4 13, q ∈ wsX4_digestKeptBooks := by decide +kernel
theorem lk_X4_digestKeptBooks_0 : Cond.fieldLink RX4 36 "EmptyHouse" "books" "LEmptyHouse$Books;" ∈ wsX4_digestKeptBooks := by decide +kernel
theorem lk_X4_digestKeptBooks_1 : Cond.fieldLink RX4 293 "EmptyHouse$Books" "isKept" "[Z" ∈ wsX4_digestKeptBooks := by decide +kernel
theorem lk_X4_digestKeptBooks_2 : Cond.fieldLink RX4 53 "EmptyHouse" "live" "LEmptyHouse$Village;" ∈ wsX4_digestKeptBooks := by decide +kernel
theorem lk_X4_digestKeptBooks_3 : Cond.fieldLink RX4 184 "EmptyHouse$Village" "debts" "I" ∈ wsX4_digestKeptBooks := by decide +kernel
theorem lk_X4_digestKeptBooks_4 : Cond.constantLong RX4 314 (31) ∈ wsX4_digestKeptBooks := by decide +kernel
theorem lk_X4_digestKeptBooks_5 : Cond.fieldLink RX4 328 "EmptyHouse$Books" "kept" "[[I" ∈ wsX4_digestKeptBooks := by decide +kernel
theorem lk_X4_digestKeptBooks_6 : Cond.constantLong RX4 326 (-1) ∈ wsX4_digestKeptBooks := by decide +kernel
theorem ddX4_digestKeptBooks : yX4_digestKeptBooks.cls = RX4 ∧ yX4_digestKeptBooks.cls ≠ "java/lang/invoke/MethodHandle" ∧ yX4_digestKeptBooks.cls ≠ "java/lang/invoke/VarHandle" ∧ (parseMethodDescriptor yX4_digestKeptBooks.desc).map (fun d => d.parameters.length) = some 1 := by decide +kernel
set_option maxHeartbeats 4000000 in
set_option maxRecDepth 100000 in
theorem lX4_digestKeptBooks_40_ok {h : Nat → Nat} {X : Cx} {l0 : Launch} {D0 : va_G} {K0 : Nat → ClassId} (σ : pS) (p5 : Int32) {k79 : Int64 → Option Int64} {r : Int64} (C : Cok wX h X l0 ({ frames := 0, cells := 0, slots := 0, locals := 0 } : Room) D0 K0 cX4_digestKeptBooks 7 RX4 wsX4_digestKeptBooks) (hret : ∀ (pc : Nat) (lv' : List (Nat × Value)), decode cX4_digestKeptBooks pc = .ok (.lreturn, 1) → G wX h X pc lv' [.long r] σ) (hk79 : ∀ (z3 : Int64), k79 z3 = some r → G wX h X 79 [(0, .ref (h 0)), (3, .long z3), (5, .int p5)] [] σ) : ∀ (F : Nat) (v3 : Int64) (v6 : Int32), lX4_digestKeptBooks_40 σ p5 k79 F v3 v6 = some r → G wX h X 40 [(0, .ref (h 0)), (3, .long v3), (5, .int p5), (6, .int v6)] [] σ := by
  intro F
  induction F with
  | zero => intro v3 v6 hf; exact absurd hf (by simp [lX4_digestKeptBooks_40])
  | succ F ih =>
    intro v3 v6 hf
    rw [lX4_digestKeptBooks_40.eq_2] at hf
    refine g_iload C 3 dX4_digestKeptBooks_40 rfl ?_
    refine g_aload_n C 0 dX4_digestKeptBooks_42 rfl rfl ?_
    refine g_getR C in_X4_digestKeptBooks_X4 (k := 8) lk_X4_digestKeptBooks_2 rfl (Nat.le_of_ble_eq_true rfl) rfl (Nat.le_of_ble_eq_true rfl) rfl dX4_digestKeptBooks_43 ?_
    obtain ⟨hg1, hf⟩ := g_guard hf
    refine g_getI C in_X4_digestKeptBooks_X3 (k := 1) lk_X4_digestKeptBooks_3 rfl (Nat.le_of_ble_eq_true rfl) (shV hg1) (ltV hg1) rfl dX4_digestKeptBooks_46 ?_
    refine g_icmp_ge (tgt := 79) hf C dX4_digestKeptBooks_49 (by decide) (fun hf => ?_) (fun hf => ?_)
    · refine g_lv [0, 1, 2] rfl ?_
      exact hk79 v3 hf
    · refine g_ldc2 C lk_X4_digestKeptBooks_4 dX4_digestKeptBooks_52 ?_
      refine g_lload_n C 1 dX4_digestKeptBooks_55 rfl rfl ?_
      refine g_lmul C dX4_digestKeptBooks_56 ?_
      refine g_aload_n C 0 dX4_digestKeptBooks_57 rfl rfl ?_
      refine g_getC (n := 2) C in_X4_digestKeptBooks_X4 (k := 5) lk_X4_digestKeptBooks_0 rfl (Nat.le_of_ble_eq_true rfl) rfl (Nat.le_of_ble_eq_true rfl) rfl dX4_digestKeptBooks_58 ?_
      refine g_getC (n := 10) C in_X4_digestKeptBooks_X0 (k := 1) lk_X4_digestKeptBooks_5 rfl (Nat.le_of_ble_eq_true rfl) rfl (Nat.le_of_ble_eq_true rfl) rfl dX4_digestKeptBooks_61 ?_
      refine g_iload C 2 dX4_digestKeptBooks_64 rfl ?_
      refine g_aald hf C rfl (by decide) (Nat.le_of_ble_eq_true rfl) dX4_digestKeptBooks_66 (fun hp2 hf => ?_)
      refine g_iload C 3 dX4_digestKeptBooks_67 rfl ?_
      refine g_iald hf C (sh_kept _ (pin_lt hp2)).1 (sh_kept _ (pin_lt hp2)).2 dX4_digestKeptBooks_69 (fun hf => ?_)
      refine g_i2l C dX4_digestKeptBooks_70 ?_
      refine g_ladd C dX4_digestKeptBooks_71 ?_
      refine g_letl hf (fun x3 hf => ?_)
      refine g_lstore_n C [1, 0, 2, 3] dX4_digestKeptBooks_72 rfl (Nat.le_of_ble_eq_true rfl) rfl ?_
      refine g_iinc C 3 [1, 2, 3, 0] dX4_digestKeptBooks_73 rfl ic_1 (Nat.le_of_ble_eq_true rfl) rfl ?_
      refine g_goto (tgt := 40) C dX4_digestKeptBooks_76 (by decide) ?_
      exact ih x3 (v6 + (1 : Int32)) hf
set_option maxHeartbeats 4000000 in
set_option maxRecDepth 100000 in
theorem lX4_digestKeptBooks_5_ok {h : Nat → Nat} {X : Cx} {l0 : Launch} {D0 : va_G} {K0 : Nat → ClassId} (σ : pS) {k85 : Int64 → Option Int64} {r : Int64} (C : Cok wX h X l0 ({ frames := 0, cells := 0, slots := 0, locals := 0 } : Room) D0 K0 cX4_digestKeptBooks 7 RX4 wsX4_digestKeptBooks) (hret : ∀ (pc : Nat) (lv' : List (Nat × Value)), decode cX4_digestKeptBooks pc = .ok (.lreturn, 1) → G wX h X pc lv' [.long r] σ) (hk85 : ∀ (z3 : Int64), k85 z3 = some r → G wX h X 85 [(3, .long z3)] [] σ) : ∀ (F : Nat) (v3 : Int64) (v5 : Int32), lX4_digestKeptBooks_5 σ k85 F v3 v5 = some r → G wX h X 5 [(0, .ref (h 0)), (3, .long v3), (5, .int v5)] [] σ := by
  intro F
  induction F with
  | zero => intro v3 v5 hf; exact absurd hf (by simp [lX4_digestKeptBooks_5])
  | succ F ih =>
    intro v3 v5 hf
    rw [lX4_digestKeptBooks_5.eq_2] at hf
    refine g_iload C 2 dX4_digestKeptBooks_5 rfl ?_
    refine g_iconst C dX4_digestKeptBooks_7 ic_3 ?_
    refine g_icmp_ge (tgt := 85) hf C dX4_digestKeptBooks_8 (by decide) (fun hf => ?_) (fun hf => ?_)
    · refine g_lv [1] rfl ?_
      exact hk85 v3 hf
    · refine g_aload_n C 0 dX4_digestKeptBooks_11 rfl rfl ?_
      refine g_getC (n := 2) C in_X4_digestKeptBooks_X4 (k := 5) lk_X4_digestKeptBooks_0 rfl (Nat.le_of_ble_eq_true rfl) rfl (Nat.le_of_ble_eq_true rfl) rfl dX4_digestKeptBooks_12 ?_
      refine g_getC (n := 11) C in_X4_digestKeptBooks_X0 (k := 2) lk_X4_digestKeptBooks_1 rfl (Nat.le_of_ble_eq_true rfl) rfl (Nat.le_of_ble_eq_true rfl) rfl dX4_digestKeptBooks_15 ?_
      refine g_iload C 2 dX4_digestKeptBooks_18 rfl ?_
      refine g_zald hf C rfl (Nat.le_of_ble_eq_true rfl) dX4_digestKeptBooks_20 (fun hf => ?_)
      refine g_if_ne (tgt := 37) hf C dX4_digestKeptBooks_21 (by decide) (fun hf => ?_) (fun hf => ?_)
      · refine g_iconst C dX4_digestKeptBooks_37 ic_0 ?_
        refine g_istore C [1, 2, 3, 0] dX4_digestKeptBooks_38 (Nat.le_of_ble_eq_true rfl) rfl ?_
        refine lX4_digestKeptBooks_40_ok σ v5 C hret (fun y4 hf => ?_) FU v3 (0 : Int32) hf
        refine g_iinc C 2 [1, 2, 0] dX4_digestKeptBooks_79 rfl ic_1 (Nat.le_of_ble_eq_true rfl) rfl ?_
        refine g_goto (tgt := 5) C dX4_digestKeptBooks_82 (by decide) ?_
        exact ih y4 (v5 + (1 : Int32)) hf
      · refine g_ldc2 C lk_X4_digestKeptBooks_4 dX4_digestKeptBooks_24 ?_
        refine g_lload_n C 1 dX4_digestKeptBooks_27 rfl rfl ?_
        refine g_lmul C dX4_digestKeptBooks_28 ?_
        refine g_ldc2 C lk_X4_digestKeptBooks_6 dX4_digestKeptBooks_29 ?_
        refine g_ladd C dX4_digestKeptBooks_32 ?_
        refine g_letl hf (fun x5 hf => ?_)
        refine g_lstore_n C [1, 0, 2] dX4_digestKeptBooks_33 rfl (Nat.le_of_ble_eq_true rfl) rfl ?_
        refine g_goto (tgt := 79) C dX4_digestKeptBooks_34 (by decide) ?_
        refine g_iinc C 2 [1, 2, 0] dX4_digestKeptBooks_79 rfl ic_1 (Nat.le_of_ble_eq_true rfl) rfl ?_
        refine g_goto (tgt := 5) C dX4_digestKeptBooks_82 (by decide) ?_
        exact ih x5 (v5 + (1 : Int32)) hf
set_option maxHeartbeats 4000000 in
set_option maxRecDepth 100000 in
theorem mX4_digestKeptBooks (l0 : Launch) (D0 : va_G) (K0 : Nat → ClassId) (h : Nat → Nat) (σ : pS) (a1 : Int64) {r : Int64} (hf : fX4_digestKeptBooks σ a1 = some r) : Met l0 yX4_digestKeptBooks wsX4_digestKeptBooks ({ frames := 0, cells := 0, slots := 0, locals := 0 } : Room) (va_Pc [.ref (h 0), .long a1] (pIn wX D0 K0 h σ)) (va_Ql (fun r' u' => r' = r ∧ u' = σ) (pOut wX D0 K0 h) (pA wX h)) 0 0 (pA wX h) := by
  refine p_metL (lv := [(0, .ref (h 0)), (1, .long a1)]) (by decide +kernel) rfl rfl (Nat.le_of_ble_eq_true rfl) rfl (fun X C hret => ?_)
  unfold fX4_digestKeptBooks at hf
  refine g_lload_n C 1 dX4_digestKeptBooks_0 rfl rfl ?_
  refine g_lstore_n C [1, 0] dX4_digestKeptBooks_1 rfl (Nat.le_of_ble_eq_true rfl) rfl ?_
  refine g_iconst C dX4_digestKeptBooks_2 ic_0 ?_
  refine g_istore C [1, 2, 0] dX4_digestKeptBooks_3 (Nat.le_of_ble_eq_true rfl) rfl ?_
  refine lX4_digestKeptBooks_5_ok σ C hret (fun y6 hf => ?_) FU a1 (0 : Int32) hf
  refine g_lload_n C 0 dX4_digestKeptBooks_85 rfl rfl ?_
  exact g_retl hf hret dX4_digestKeptBooks_86
/-! X4_digest -/
theorem in_X4_digest_X3 : ∀ q ∈ u_ws RX3 TX3 11, q ∈ wsX4_digest := by decide +kernel
theorem in_X4_digest_X4 : ∀ q ∈ u_ws RX4 TX4 13, q ∈ wsX4_digest := by decide +kernel
theorem lk_X4_digest_0 : Cond.constantLong RX4 312 (17) ∈ wsX4_digest := by decide +kernel
theorem lk_X4_digest_1 : Cond.constantLong RX4 314 (31) ∈ wsX4_digest := by decide +kernel
theorem lk_X4_digest_2 : Cond.fieldLink RX4 53 "EmptyHouse" "live" "LEmptyHouse$Village;" ∈ wsX4_digest := by decide +kernel
theorem lk_X4_digest_3 : Cond.fieldLink RX4 146 "EmptyHouse$Village" "law" "I" ∈ wsX4_digest := by decide +kernel
theorem lk_X4_digest_4 : Cond.fieldLink RX4 14 "EmptyHouse" "rowSizes" "[I" ∈ wsX4_digest := by decide +kernel
theorem lk_X4_digest_5 : Cond.fieldLink RX4 11 "EmptyHouse" "rows" "[[I" ∈ wsX4_digest := by decide +kernel
theorem lk_X4_digest_6 : Cond.fieldLink RX4 23 "EmptyHouse" "textSizes" "[I" ∈ wsX4_digest := by decide +kernel
theorem lk_X4_digest_7 : Cond.fieldLink RX4 20 "EmptyHouse" "texts" "[[B" ∈ wsX4_digest := by decide +kernel
theorem ddX4_digest : yX4_digest.cls = RX4 ∧ yX4_digest.cls ≠ "java/lang/invoke/MethodHandle" ∧ yX4_digest.cls ≠ "java/lang/invoke/VarHandle" ∧ (parseMethodDescriptor yX4_digest.desc).map (fun d => d.parameters.length) = some 0 := by decide +kernel
set_option maxHeartbeats 4000000 in
set_option maxRecDepth 100000 in
theorem lX4_digest_6_ok {h : Nat → Nat} {X : Cx} {l0 : Launch} {D0 : va_G} {K0 : Nat → ClassId} (σ : pS) {k31 : Int64 → Option Int64} {r : Int64} (C : Cok wX h X l0 ({ frames := 3, cells := 0, slots := 0, locals := 66 } : Room) D0 K0 cX4_digest 5 RX4 wsX4_digest) (hret : ∀ (pc : Nat) (lv' : List (Nat × Value)), decode cX4_digest pc = .ok (.lreturn, 1) → G wX h X pc lv' [.long r] σ) (hk31 : ∀ (z1 : Int64), k31 z1 = some r → G wX h X 31 [(0, .ref (h 0)), (1, .long z1)] [] σ) : ∀ (F : Nat) (v1 : Int64) (v3 : Int32), lX4_digest_6 σ k31 F v1 v3 = some r → G wX h X 6 [(0, .ref (h 0)), (1, .long v1), (3, .int v3)] [] σ := by
  intro F
  induction F with
  | zero => intro v1 v3 hf; exact absurd hf (by simp [lX4_digest_6])
  | succ F ih =>
    intro v1 v3 hf
    rw [lX4_digest_6.eq_2] at hf
    refine g_iload_n C 2 dX4_digest_6 rfl rfl ?_
    refine g_bipush C dX4_digest_7 bp_8 ?_
    refine g_icmp_ge (tgt := 31) hf C dX4_digest_9 (by decide) (fun hf => ?_) (fun hf => ?_)
    · refine g_lv [0, 1] rfl ?_
      exact hk31 v1 hf
    · refine g_ldc2 C lk_X4_digest_1 dX4_digest_12 ?_
      refine g_lload_n C 1 dX4_digest_15 rfl rfl ?_
      refine g_lmul C dX4_digest_16 ?_
      refine g_aload_n C 0 dX4_digest_17 rfl rfl ?_
      refine g_iload_n C 2 dX4_digest_18 rfl rfl ?_
      obtain ⟨r2, hc1, hf⟩ := g_bind hf
      refine g_callVi C (mX4_count l0 D0 K0 h σ v3 hc1) gX4_digest_X4_count rfl rfl rfl ddX4_count ⟨(Nat.le_of_ble_eq_true rfl), (Nat.le_of_ble_eq_true rfl)⟩ rfl (Nat.le_of_ble_eq_true rfl) rfl rfl rfl (Nat.le_of_ble_eq_true rfl) dX4_digest_19 ?_
      refine g_i2l C dX4_digest_22 ?_
      refine g_ladd C dX4_digest_23 ?_
      refine g_letl hf (fun x3 hf => ?_)
      refine g_lstore_n C [1, 0, 2] dX4_digest_24 rfl (Nat.le_of_ble_eq_true rfl) rfl ?_
      refine g_iinc C 2 [1, 2, 0] dX4_digest_25 rfl ic_1 (Nat.le_of_ble_eq_true rfl) rfl ?_
      refine g_goto (tgt := 6) C dX4_digest_28 (by decide) ?_
      exact ih x3 (v3 + (1 : Int32)) hf
set_option maxHeartbeats 4000000 in
set_option maxRecDepth 100000 in
theorem lX4_digest_83_ok {h : Nat → Nat} {X : Cx} {l0 : Launch} {D0 : va_G} {K0 : Nat → ClassId} (σ : pS) (p3 : Int32) {k117 : Int64 → Option Int64} {r : Int64} (C : Cok wX h X l0 ({ frames := 3, cells := 0, slots := 0, locals := 66 } : Room) D0 K0 cX4_digest 5 RX4 wsX4_digest) (hret : ∀ (pc : Nat) (lv' : List (Nat × Value)), decode cX4_digest pc = .ok (.lreturn, 1) → G wX h X pc lv' [.long r] σ) (hk117 : ∀ (z1 : Int64), k117 z1 = some r → G wX h X 117 [(0, .ref (h 0)), (1, .long z1), (3, .int p3)] [] σ) : ∀ (F : Nat) (v1 : Int64) (v4 : Int32), lX4_digest_83 σ p3 k117 F v1 v4 = some r → G wX h X 83 [(0, .ref (h 0)), (1, .long v1), (3, .int p3), (4, .int v4)] [] σ := by
  intro F
  induction F with
  | zero => intro v1 v4 hf; exact absurd hf (by simp [lX4_digest_83])
  | succ F ih =>
    intro v1 v4 hf
    rw [lX4_digest_83.eq_2] at hf
    refine g_iload C 3 dX4_digest_83 rfl ?_
    refine g_aload_n C 0 dX4_digest_85 rfl rfl ?_
    refine g_getC (n := 5) C in_X4_digest_X4 (k := 1) lk_X4_digest_4 rfl (Nat.le_of_ble_eq_true rfl) rfl (Nat.le_of_ble_eq_true rfl) rfl dX4_digest_86 ?_
    refine g_iload_n C 2 dX4_digest_89 rfl rfl ?_
    refine g_iald hf C rfl (Nat.le_of_ble_eq_true rfl) dX4_digest_90 (fun hf => ?_)
    refine g_icmp_ge (tgt := 117) hf C dX4_digest_91 (by decide) (fun hf => ?_) (fun hf => ?_)
    · refine g_lv [0, 1, 2] rfl ?_
      exact hk117 v1 hf
    · refine g_ldc2 C lk_X4_digest_1 dX4_digest_94 ?_
      refine g_lload_n C 1 dX4_digest_97 rfl rfl ?_
      refine g_lmul C dX4_digest_98 ?_
      refine g_aload_n C 0 dX4_digest_99 rfl rfl ?_
      refine g_getC (n := 4) C in_X4_digest_X4 (k := 0) lk_X4_digest_5 rfl (Nat.le_of_ble_eq_true rfl) rfl (Nat.le_of_ble_eq_true rfl) rfl dX4_digest_100 ?_
      refine g_iload_n C 2 dX4_digest_103 rfl rfl ?_
      refine g_aald hf C rfl (by decide) (Nat.le_of_ble_eq_true rfl) dX4_digest_104 (fun hp12 hf => ?_)
      refine g_iload C 3 dX4_digest_105 rfl ?_
      refine g_iald hf C (sh_row _ (pin_lt hp12)).1 (sh_row _ (pin_lt hp12)).2 dX4_digest_107 (fun hf => ?_)
      refine g_i2l C dX4_digest_108 ?_
      refine g_ladd C dX4_digest_109 ?_
      refine g_letl hf (fun x13 hf => ?_)
      refine g_lstore_n C [1, 0, 2, 3] dX4_digest_110 rfl (Nat.le_of_ble_eq_true rfl) rfl ?_
      refine g_iinc C 3 [1, 2, 3, 0] dX4_digest_111 rfl ic_1 (Nat.le_of_ble_eq_true rfl) rfl ?_
      refine g_goto (tgt := 83) C dX4_digest_114 (by decide) ?_
      exact ih x13 (v4 + (1 : Int32)) hf
set_option maxHeartbeats 4000000 in
set_option maxRecDepth 100000 in
theorem lX4_digest_60_ok {h : Nat → Nat} {X : Cx} {l0 : Launch} {D0 : va_G} {K0 : Nat → ClassId} (σ : pS) {k123 : Int64 → Option Int64} {r : Int64} (C : Cok wX h X l0 ({ frames := 3, cells := 0, slots := 0, locals := 66 } : Room) D0 K0 cX4_digest 5 RX4 wsX4_digest) (hret : ∀ (pc : Nat) (lv' : List (Nat × Value)), decode cX4_digest pc = .ok (.lreturn, 1) → G wX h X pc lv' [.long r] σ) (hk123 : ∀ (z1 : Int64), k123 z1 = some r → G wX h X 123 [(0, .ref (h 0)), (1, .long z1)] [] σ) : ∀ (F : Nat) (v1 : Int64) (v3 : Int32), lX4_digest_60 σ k123 F v1 v3 = some r → G wX h X 60 [(0, .ref (h 0)), (1, .long v1), (3, .int v3)] [] σ := by
  intro F
  induction F with
  | zero => intro v1 v3 hf; exact absurd hf (by simp [lX4_digest_60])
  | succ F ih =>
    intro v1 v3 hf
    rw [lX4_digest_60.eq_2] at hf
    refine g_iload_n C 2 dX4_digest_60 rfl rfl ?_
    refine g_bipush C dX4_digest_61 bp_6 ?_
    refine g_icmp_ge (tgt := 123) hf C dX4_digest_63 (by decide) (fun hf => ?_) (fun hf => ?_)
    · refine g_lv [0, 1] rfl ?_
      exact hk123 v1 hf
    · refine g_ldc2 C lk_X4_digest_1 dX4_digest_66 ?_
      refine g_lload_n C 1 dX4_digest_69 rfl rfl ?_
      refine g_lmul C dX4_digest_70 ?_
      refine g_aload_n C 0 dX4_digest_71 rfl rfl ?_
      refine g_getC (n := 5) C in_X4_digest_X4 (k := 1) lk_X4_digest_4 rfl (Nat.le_of_ble_eq_true rfl) rfl (Nat.le_of_ble_eq_true rfl) rfl dX4_digest_72 ?_
      refine g_iload_n C 2 dX4_digest_75 rfl rfl ?_
      refine g_iald hf C rfl (Nat.le_of_ble_eq_true rfl) dX4_digest_76 (fun hf => ?_)
      refine g_i2l C dX4_digest_77 ?_
      refine g_ladd C dX4_digest_78 ?_
      refine g_letl hf (fun x11 hf => ?_)
      refine g_lstore_n C [1, 0, 2] dX4_digest_79 rfl (Nat.le_of_ble_eq_true rfl) rfl ?_
      refine g_iconst C dX4_digest_80 ic_0 ?_
      refine g_istore C [1, 2, 3, 0] dX4_digest_81 (Nat.le_of_ble_eq_true rfl) rfl ?_
      refine lX4_digest_83_ok σ v3 C hret (fun y14 hf => ?_) FU x11 (0 : Int32) hf
      refine g_iinc C 2 [1, 2, 0] dX4_digest_117 rfl ic_1 (Nat.le_of_ble_eq_true rfl) rfl ?_
      refine g_goto (tgt := 60) C dX4_digest_120 (by decide) ?_
      exact ih y14 (v3 + (1 : Int32)) hf
set_option maxHeartbeats 4000000 in
set_option maxRecDepth 100000 in
theorem lX4_digest_147_ok {h : Nat → Nat} {X : Cx} {l0 : Launch} {D0 : va_G} {K0 : Nat → ClassId} (σ : pS) (p3 : Int32) {k181 : Int64 → Option Int64} {r : Int64} (C : Cok wX h X l0 ({ frames := 3, cells := 0, slots := 0, locals := 66 } : Room) D0 K0 cX4_digest 5 RX4 wsX4_digest) (hret : ∀ (pc : Nat) (lv' : List (Nat × Value)), decode cX4_digest pc = .ok (.lreturn, 1) → G wX h X pc lv' [.long r] σ) (hk181 : ∀ (z1 : Int64), k181 z1 = some r → G wX h X 181 [(0, .ref (h 0)), (1, .long z1), (3, .int p3)] [] σ) : ∀ (F : Nat) (v1 : Int64) (v4 : Int32), lX4_digest_147 σ p3 k181 F v1 v4 = some r → G wX h X 147 [(0, .ref (h 0)), (1, .long v1), (3, .int p3), (4, .int v4)] [] σ := by
  intro F
  induction F with
  | zero => intro v1 v4 hf; exact absurd hf (by simp [lX4_digest_147])
  | succ F ih =>
    intro v1 v4 hf
    rw [lX4_digest_147.eq_2] at hf
    refine g_iload C 3 dX4_digest_147 rfl ?_
    refine g_aload_n C 0 dX4_digest_149 rfl rfl ?_
    refine g_getC (n := 7) C in_X4_digest_X4 (k := 3) lk_X4_digest_6 rfl (Nat.le_of_ble_eq_true rfl) rfl (Nat.le_of_ble_eq_true rfl) rfl dX4_digest_150 ?_
    refine g_iload_n C 2 dX4_digest_153 rfl rfl ?_
    refine g_iald hf C rfl (Nat.le_of_ble_eq_true rfl) dX4_digest_154 (fun hf => ?_)
    refine g_icmp_ge (tgt := 181) hf C dX4_digest_155 (by decide) (fun hf => ?_) (fun hf => ?_)
    · refine g_lv [0, 1, 2] rfl ?_
      exact hk181 v1 hf
    · refine g_ldc2 C lk_X4_digest_1 dX4_digest_158 ?_
      refine g_lload_n C 1 dX4_digest_161 rfl rfl ?_
      refine g_lmul C dX4_digest_162 ?_
      refine g_aload_n C 0 dX4_digest_163 rfl rfl ?_
      refine g_getC (n := 6) C in_X4_digest_X4 (k := 2) lk_X4_digest_7 rfl (Nat.le_of_ble_eq_true rfl) rfl (Nat.le_of_ble_eq_true rfl) rfl dX4_digest_164 ?_
      refine g_iload_n C 2 dX4_digest_167 rfl rfl ?_
      refine g_aald hf C rfl (by decide) (Nat.le_of_ble_eq_true rfl) dX4_digest_168 (fun hp17 hf => ?_)
      refine g_iload C 3 dX4_digest_169 rfl ?_
      refine g_bald hf C (sh_text _ (pin_lt hp17)).1 (sh_text _ (pin_lt hp17)).2 dX4_digest_171 (fun hf => ?_)
      refine g_i2l C dX4_digest_172 ?_
      refine g_ladd C dX4_digest_173 ?_
      refine g_letl hf (fun x18 hf => ?_)
      refine g_lstore_n C [1, 0, 2, 3] dX4_digest_174 rfl (Nat.le_of_ble_eq_true rfl) rfl ?_
      refine g_iinc C 3 [1, 2, 3, 0] dX4_digest_175 rfl ic_1 (Nat.le_of_ble_eq_true rfl) rfl ?_
      refine g_goto (tgt := 147) C dX4_digest_178 (by decide) ?_
      exact ih x18 (v4 + (1 : Int32)) hf
set_option maxHeartbeats 4000000 in
set_option maxRecDepth 100000 in
theorem lX4_digest_125_ok {h : Nat → Nat} {X : Cx} {l0 : Launch} {D0 : va_G} {K0 : Nat → ClassId} (σ : pS) {k187 : Int64 → Option Int64} {r : Int64} (C : Cok wX h X l0 ({ frames := 3, cells := 0, slots := 0, locals := 66 } : Room) D0 K0 cX4_digest 5 RX4 wsX4_digest) (hret : ∀ (pc : Nat) (lv' : List (Nat × Value)), decode cX4_digest pc = .ok (.lreturn, 1) → G wX h X pc lv' [.long r] σ) (hk187 : ∀ (z1 : Int64), k187 z1 = some r → G wX h X 187 [(1, .long z1)] [] σ) : ∀ (F : Nat) (v1 : Int64) (v3 : Int32), lX4_digest_125 σ k187 F v1 v3 = some r → G wX h X 125 [(0, .ref (h 0)), (1, .long v1), (3, .int v3)] [] σ := by
  intro F
  induction F with
  | zero => intro v1 v3 hf; exact absurd hf (by simp [lX4_digest_125])
  | succ F ih =>
    intro v1 v3 hf
    rw [lX4_digest_125.eq_2] at hf
    refine g_iload_n C 2 dX4_digest_125 rfl rfl ?_
    refine g_iconst C dX4_digest_126 ic_4 ?_
    refine g_icmp_ge (tgt := 187) hf C dX4_digest_127 (by decide) (fun hf => ?_) (fun hf => ?_)
    · refine g_lv [1] rfl ?_
      exact hk187 v1 hf
    · refine g_ldc2 C lk_X4_digest_1 dX4_digest_130 ?_
      refine g_lload_n C 1 dX4_digest_133 rfl rfl ?_
      refine g_lmul C dX4_digest_134 ?_
      refine g_aload_n C 0 dX4_digest_135 rfl rfl ?_
      refine g_getC (n := 7) C in_X4_digest_X4 (k := 3) lk_X4_digest_6 rfl (Nat.le_of_ble_eq_true rfl) rfl (Nat.le_of_ble_eq_true rfl) rfl dX4_digest_136 ?_
      refine g_iload_n C 2 dX4_digest_139 rfl rfl ?_
      refine g_iald hf C rfl (Nat.le_of_ble_eq_true rfl) dX4_digest_140 (fun hf => ?_)
      refine g_i2l C dX4_digest_141 ?_
      refine g_ladd C dX4_digest_142 ?_
      refine g_letl hf (fun x16 hf => ?_)
      refine g_lstore_n C [1, 0, 2] dX4_digest_143 rfl (Nat.le_of_ble_eq_true rfl) rfl ?_
      refine g_iconst C dX4_digest_144 ic_0 ?_
      refine g_istore C [1, 2, 3, 0] dX4_digest_145 (Nat.le_of_ble_eq_true rfl) rfl ?_
      refine lX4_digest_147_ok σ v3 C hret (fun y19 hf => ?_) FU x16 (0 : Int32) hf
      refine g_iinc C 2 [1, 2, 0] dX4_digest_181 rfl ic_1 (Nat.le_of_ble_eq_true rfl) rfl ?_
      refine g_goto (tgt := 125) C dX4_digest_184 (by decide) ?_
      exact ih y19 (v3 + (1 : Int32)) hf
set_option maxHeartbeats 4000000 in
set_option maxRecDepth 100000 in
theorem mX4_digest (l0 : Launch) (D0 : va_G) (K0 : Nat → ClassId) (h : Nat → Nat) (σ : pS)  {r : Int64} (hf : fX4_digest σ = some r) : Met l0 yX4_digest wsX4_digest ({ frames := 3, cells := 0, slots := 0, locals := 66 } : Room) (va_Pc [.ref (h 0)] (pIn wX D0 K0 h σ)) (va_Ql (fun r' u' => r' = r ∧ u' = σ) (pOut wX D0 K0 h) (pA wX h)) 0 0 (pA wX h) := by
  refine p_metL (lv := [(0, .ref (h 0))]) (by decide +kernel) rfl rfl (Nat.le_of_ble_eq_true rfl) rfl (fun X C hret => ?_)
  unfold fX4_digest at hf
  refine g_ldc2 C lk_X4_digest_0 dX4_digest_0 ?_
  refine g_lstore_n C [1, 0] dX4_digest_3 rfl (Nat.le_of_ble_eq_true rfl) rfl ?_
  refine g_iconst C dX4_digest_4 ic_0 ?_
  refine g_istore_n C [1, 2, 0] dX4_digest_5 rfl (Nat.le_of_ble_eq_true rfl) rfl ?_
  refine lX4_digest_6_ok σ C hret (fun y4 hf => ?_) FU (17 : Int64) (0 : Int32) hf
  refine g_ldc2 C lk_X4_digest_1 dX4_digest_31 ?_
  refine g_lload_n C 1 dX4_digest_34 rfl rfl ?_
  refine g_lmul C dX4_digest_35 ?_
  refine g_aload_n C 0 dX4_digest_36 rfl rfl ?_
  refine g_getR C in_X4_digest_X4 (k := 8) lk_X4_digest_2 rfl (Nat.le_of_ble_eq_true rfl) rfl (Nat.le_of_ble_eq_true rfl) rfl dX4_digest_37 ?_
  obtain ⟨hg5, hf⟩ := g_guard hf
  refine g_getI C in_X4_digest_X3 (k := 2) lk_X4_digest_3 rfl (Nat.le_of_ble_eq_true rfl) (shV hg5) (ltV hg5) rfl dX4_digest_40 ?_
  refine g_i2l C dX4_digest_43 ?_
  refine g_ladd C dX4_digest_44 ?_
  refine g_letl hf (fun x6 hf => ?_)
  refine g_lstore_n C [1, 0] dX4_digest_45 rfl (Nat.le_of_ble_eq_true rfl) rfl ?_
  refine g_aload_n C 0 dX4_digest_46 rfl rfl ?_
  refine g_lload_n C 1 dX4_digest_47 rfl rfl ?_
  obtain ⟨r8, hc7, hf⟩ := g_bind hf
  refine g_callVl C (mX4_digestVillage l0 D0 K0 h σ x6 hc7) gX4_digest_X4_digestVillage rfl rfl rfl ddX4_digestVillage ⟨(Nat.le_of_ble_eq_true rfl), (Nat.le_of_ble_eq_true rfl)⟩ rfl (Nat.le_of_ble_eq_true rfl) rfl rfl rfl (Nat.le_of_ble_eq_true rfl) dX4_digest_48 ?_
  refine g_lstore_n C [1, 0] dX4_digest_51 rfl (Nat.le_of_ble_eq_true rfl) rfl ?_
  refine g_aload_n C 0 dX4_digest_52 rfl rfl ?_
  refine g_lload_n C 1 dX4_digest_53 rfl rfl ?_
  obtain ⟨r10, hc9, hf⟩ := g_bind hf
  refine g_callVl C (mX4_digestKeptBooks l0 D0 K0 h σ r8 hc9) gX4_digest_X4_digestKeptBooks rfl rfl rfl ddX4_digestKeptBooks ⟨(Nat.le_of_ble_eq_true rfl), (Nat.le_of_ble_eq_true rfl)⟩ rfl (Nat.le_of_ble_eq_true rfl) rfl rfl rfl (Nat.le_of_ble_eq_true rfl) dX4_digest_54 ?_
  refine g_lstore_n C [1, 0] dX4_digest_57 rfl (Nat.le_of_ble_eq_true rfl) rfl ?_
  refine g_iconst C dX4_digest_58 ic_0 ?_
  refine g_istore_n C [1, 2, 0] dX4_digest_59 rfl (Nat.le_of_ble_eq_true rfl) rfl ?_
  refine lX4_digest_60_ok σ C hret (fun y15 hf => ?_) FU r10 (0 : Int32) hf
  refine g_iconst C dX4_digest_123 ic_0 ?_
  refine g_istore_n C [1, 2, 0] dX4_digest_124 rfl (Nat.le_of_ble_eq_true rfl) rfl ?_
  refine lX4_digest_125_ok σ C hret (fun y20 hf => ?_) FU y15 (0 : Int32) hf
  refine g_lload_n C 0 dX4_digest_187 rfl rfl ?_
  exact g_retl hf hret dX4_digest_188
