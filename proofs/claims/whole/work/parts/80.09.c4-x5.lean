/-! X5_family -/
theorem in_X5_family_X5 : ∀ q ∈ u_ws RX5 TX5 30, q ∈ wsX5_family := by decide +kernel
theorem lk_X5_family_0 : Cond.fieldLink RX5 140 "EmptyHouseModel" "n" "I" ∈ wsX5_family := by decide +kernel
theorem lk_X5_family_1 : Cond.fieldLink RX5 29 "EmptyHouseModel" "people" "[I" ∈ wsX5_family := by decide +kernel
theorem ddX5_family : yX5_family.cls = RX5 ∧ yX5_family.cls ≠ "java/lang/invoke/MethodHandle" ∧ yX5_family.cls ≠ "java/lang/invoke/VarHandle" ∧ (parseMethodDescriptor yX5_family.desc).map (fun d => d.parameters.length) = some 1 := by decide +kernel
set_option maxHeartbeats 4000000 in
set_option maxRecDepth 100000 in
theorem lX5_family_24_ok {h : Nat → Nat} {X : Cx} {l0 : Launch} {D0 : va_G} {K0 : Nat → ClassId} (σ : pS) (p1 : Int32) {k63 : Int32 → Option (Int32 × pS)} {r : Int32} {u : pS} (C : Cok wM h X l0 ({ frames := 1, cells := 0, slots := 0, locals := 22 } : Room) D0 K0 cX5_family 4 RX5 wsX5_family) (hret : ∀ (pc : Nat) (lv' : List (Nat × Value)), decode cX5_family pc = .ok (.ireturn, 1) → G wM h X pc lv' [.int r] u) (hk63 : ∀ (z2 : Int32), k63 z2 = some (r, u) → G wM h X 63 [(0, .ref (h 0)), (2, .int z2)] [] σ) : ∀ (F : Nat) (v2 : Int32) (v3 : Int32), lX5_family_24 σ p1 k63 F v2 v3 = some (r, u) → G wM h X 24 [(0, .ref (h 0)), (1, .int p1), (2, .int v2), (3, .int v3)] [] σ := by
  intro F
  induction F with
  | zero => intro v2 v3 hf; exact absurd hf (by simp [lX5_family_24])
  | succ F ih =>
    intro v2 v3 hf
    rw [lX5_family_24.eq_2] at hf
    refine g_iload_n C 3 dX5_family_24 rfl rfl ?_
    refine g_aload_n C 0 dX5_family_25 rfl rfl ?_
    refine g_getI C in_X5_family_X5 (k := 10) lk_X5_family_0 rfl (Nat.le_of_ble_eq_true rfl) rfl (Nat.le_of_ble_eq_true rfl) rfl dX5_family_26 ?_
    refine g_icmp_ge (tgt := 63) hf C dX5_family_29 (by decide) (fun hf => ?_) (fun hf => ?_)
    · refine g_lv [0, 2] rfl ?_
      exact hk63 v2 hf
    · refine g_iload_n C 2 dX5_family_32 rfl rfl ?_
      refine g_iload_n C 1 dX5_family_33 rfl rfl ?_
      refine g_iload_n C 3 dX5_family_34 rfl rfl ?_
      obtain ⟨r4, hc3, hf⟩ := g_bind hf
      refine g_callSi C (mX5_has l0 D0 K0 h σ p1 v3 hc3) gX5_family_X5_has rfl rfl rfl ddX5_has ⟨(Nat.le_of_ble_eq_true rfl), (Nat.le_of_ble_eq_true rfl)⟩ rfl rfl (Nat.le_of_ble_eq_true rfl) dX5_family_35 ?_
      refine g_join (P := fun j => ∀ (y6 : Int32), j y6 = some (r, u) → G wM h X 55 [(0, .ref (h 0)), (1, .int p1), (3, .int v3)] [.int y6, .int v2] σ) hf (fun y6 hf => ?_) (fun j5 hj5 hf => ?_)
      · refine g_iand C dX5_family_55 ?_
        refine g_leti hf (fun x7 hf => ?_)
        refine g_istore_n C [1, 2, 0, 3] dX5_family_56 rfl (Nat.le_of_ble_eq_true rfl) rfl ?_
        refine g_iinc C 3 [1, 2, 3, 0] dX5_family_57 rfl ic_1 (Nat.le_of_ble_eq_true rfl) rfl ?_
        refine g_goto (tgt := 24) C dX5_family_60 (by decide) ?_
        exact ih x7 (v3 + (1 : Int32)) hf
      · refine g_if_eq (tgt := 54) hf C dX5_family_38 (by decide) (fun hf => ?_) (fun hf => ?_)
        · refine g_iload_n C 2 dX5_family_54 rfl rfl ?_
          refine g_lv [0, 1, 3] rfl ?_
          exact hj5 v2 hf
        · refine g_aload_n C 0 dX5_family_41 rfl rfl ?_
          refine g_getC (n := 7) C in_X5_family_X5 (k := 11) lk_X5_family_1 rfl (Nat.le_of_ble_eq_true rfl) rfl (Nat.le_of_ble_eq_true rfl) rfl dX5_family_42 ?_
          refine g_iconst C dX5_family_45 ic_4 ?_
          refine g_iload_n C 3 dX5_family_46 rfl rfl ?_
          refine g_imul C dX5_family_47 ?_
          refine g_iconst C dX5_family_48 ic_2 ?_
          refine g_iadd C dX5_family_49 ?_
          refine g_iald hf C rfl (Nat.le_of_ble_eq_true rfl) dX5_family_50 (fun hf => ?_)
          refine g_goto (tgt := 55) C dX5_family_51 (by decide) ?_
          refine g_lv [0, 1, 3] rfl ?_
          exact hj5 (pI σ 7 ((((4 : Int32) * v3) + (2 : Int32))).toNatClampNeg) hf
set_option maxHeartbeats 4000000 in
set_option maxRecDepth 100000 in
theorem mX5_family (l0 : Launch) (D0 : va_G) (K0 : Nat → ClassId) (h : Nat → Nat) (σ : pS) (a1 : Int32) {r : Int32} {u : pS} (hf : fX5_family σ a1 = some (r, u)) : Met l0 yX5_family wsX5_family ({ frames := 1, cells := 0, slots := 0, locals := 22 } : Room) (va_Pc [.ref (h 0), .int a1] (pIn wM D0 K0 h σ)) (va_Qi (fun r' u' => r' = r ∧ u' = u) (pOut wM D0 K0 h) (pA wM h)) 0 0 (pA wM h) := by
  refine p_metI (lv := [(0, .ref (h 0)), (1, .int a1)]) (by decide +kernel) rfl rfl (Nat.le_of_ble_eq_true rfl) rfl (fun X C hret => ?_)
  unfold fX5_family at hf
  refine g_iload_n C 1 dX5_family_0 rfl rfl ?_
  refine g_iconst C dX5_family_1 ic_1 ?_
  refine g_iconst C dX5_family_2 ic_1 ?_
  refine g_aload_n C 0 dX5_family_3 rfl rfl ?_
  refine g_getI C in_X5_family_X5 (k := 10) lk_X5_family_0 rfl (Nat.le_of_ble_eq_true rfl) rfl (Nat.le_of_ble_eq_true rfl) rfl dX5_family_4 ?_
  refine g_ishl C dX5_family_7 ?_
  refine g_iconst C dX5_family_8 ic_1 ?_
  refine g_isub C dX5_family_9 ?_
  obtain ⟨r2, hc1, hf⟩ := g_bind hf
  refine g_callSi C (mX5_in l0 D0 K0 h σ a1 (1 : Int32) (((1 : Int32) <<< ((pI σ 0 10) &&& 31)) - (1 : Int32)) hc1) gX5_family_X5_in rfl rfl rfl ddX5_in ⟨(Nat.le_of_ble_eq_true rfl), (Nat.le_of_ble_eq_true rfl)⟩ rfl rfl (Nat.le_of_ble_eq_true rfl) dX5_family_10 ?_
  refine g_if_ne (tgt := 18) hf C dX5_family_13 (by decide) (fun hf => ?_) (fun hf => ?_)
  · refine g_sipush C dX5_family_18 sp_4095 ?_
    refine g_istore_n C [1, 2, 0] dX5_family_21 rfl (Nat.le_of_ble_eq_true rfl) rfl ?_
    refine g_iconst C dX5_family_22 ic_0 ?_
    refine g_istore_n C [1, 2, 3, 0] dX5_family_23 rfl (Nat.le_of_ble_eq_true rfl) rfl ?_
    refine lX5_family_24_ok σ a1 C hret (fun y8 hf => ?_) FU (4095 : Int32) (0 : Int32) hf
    refine g_aload_n C 0 dX5_family_63 rfl rfl ?_
    refine g_iload_n C 1 dX5_family_64 rfl rfl ?_
    obtain ⟨r10, hc9, hf⟩ := g_bind hf
    refine g_callSi C (mX5_bits l0 D0 K0 h σ y8 hc9) gX5_family_X5_bits rfl rfl rfl ddX5_bits ⟨(Nat.le_of_ble_eq_true rfl), (Nat.le_of_ble_eq_true rfl)⟩ rfl rfl (Nat.le_of_ble_eq_true rfl) dX5_family_65 ?_
    refine g_iload_n C 1 dX5_family_68 rfl rfl ?_
    obtain ⟨r12, σ13, hc11, hf⟩ := g_pbind hf
    refine g_callVi C (mX5_tells l0 D0 K0 h σ r10 y8 hc11) gX5_family_X5_tells rfl rfl rfl ddX5_tells ⟨(Nat.le_of_ble_eq_true rfl), (Nat.le_of_ble_eq_true rfl)⟩ rfl (Nat.le_of_ble_eq_true rfl) rfl rfl rfl (Nat.le_of_ble_eq_true rfl) dX5_family_69 ?_
    exact g_retiW hf hret dX5_family_72
  · refine g_iconst C dX5_family_16 ic_m1 ?_
    exact g_retiW hf hret dX5_family_17
/-! X5_pay -/
theorem in_X5_pay_X5 : ∀ q ∈ u_ws RX5 TX5 30, q ∈ wsX5_pay := by decide +kernel
theorem lk_X5_pay_0 : Cond.fieldLink RX5 143 "EmptyHouseModel" "debtMany" "I" ∈ wsX5_pay := by decide +kernel
theorem lk_X5_pay_1 : Cond.fieldLink RX5 32 "EmptyHouseModel" "debts" "[I" ∈ wsX5_pay := by decide +kernel
theorem ddX5_pay : yX5_pay.cls = RX5 ∧ yX5_pay.cls ≠ "java/lang/invoke/MethodHandle" ∧ yX5_pay.cls ≠ "java/lang/invoke/VarHandle" ∧ (parseMethodDescriptor yX5_pay.desc).map (fun d => d.parameters.length) = some 2 := by decide +kernel
set_option maxHeartbeats 4000000 in
set_option maxRecDepth 100000 in
theorem lX5_pay_46_ok {h : Nat → Nat} {X : Cx} {l0 : Launch} {D0 : va_G} {K0 : Nat → ClassId} (σ : pS) (p1 : Int32) (p2 : Int32) {k114 : Int32 → Option (Int32 × pS)} {r : Int32} {u : pS} (C : Cok wM h X l0 ({ frames := 5, cells := 0, slots := 0, locals := 110 } : Room) D0 K0 cX5_pay 5 RX5 wsX5_pay) (hret : ∀ (pc : Nat) (lv' : List (Nat × Value)), decode cX5_pay pc = .ok (.ireturn, 1) → G wM h X pc lv' [.int r] u) (hk114 : ∀ (z3 : Int32), k114 z3 = some (r, u) → G wM h X 114 [(0, .ref (h 0)), (1, .int p1), (2, .int p2), (3, .int z3)] [] σ) : ∀ (F : Nat) (v3 : Int32) (v4 : Int32), lX5_pay_46 σ p1 p2 k114 F v3 v4 = some (r, u) → G wM h X 46 [(0, .ref (h 0)), (1, .int p1), (2, .int p2), (3, .int v3), (4, .int v4)] [] σ := by
  intro F
  induction F with
  | zero => intro v3 v4 hf; exact absurd hf (by simp [lX5_pay_46])
  | succ F ih =>
    intro v3 v4 hf
    rw [lX5_pay_46.eq_2] at hf
    refine g_iload C 4 dX5_pay_46 rfl ?_
    refine g_aload_n C 0 dX5_pay_48 rfl rfl ?_
    refine g_getI C in_X5_pay_X5 (k := 12) lk_X5_pay_0 rfl (Nat.le_of_ble_eq_true rfl) rfl (Nat.le_of_ble_eq_true rfl) rfl dX5_pay_49 ?_
    refine g_icmp_ge (tgt := 114) hf C dX5_pay_52 (by decide) (fun hf => ?_) (fun hf => ?_)
    · refine g_lv [0, 1, 2, 3] rfl ?_
      exact hk114 v3 hf
    · refine g_iload_n C 3 dX5_pay_55 rfl rfl ?_
      refine g_join (P := fun j => j = some (r, u) → G wM h X 106 [(0, .ref (h 0)), (1, .int p1), (2, .int p2), (4, .int v4)] [] σ) hf (fun hf => ?_) (fun j9 hj9 hf => ?_)
      · refine g_iconst C dX5_pay_106 ic_0 ?_
        refine g_istore_n C [1, 2, 3, 0, 4] dX5_pay_107 rfl (Nat.le_of_ble_eq_true rfl) rfl ?_
        refine g_iinc C 4 [1, 2, 3, 4, 0] dX5_pay_108 rfl ic_1 (Nat.le_of_ble_eq_true rfl) rfl ?_
        refine g_goto (tgt := 46) C dX5_pay_111 (by decide) ?_
        exact ih (0 : Int32) (v4 + (1 : Int32)) hf
      · refine g_if_eq (tgt := 106) hf C dX5_pay_56 (by decide) (fun hf => ?_) (fun hf => ?_)
        · refine g_lv [0, 1, 2, 4] rfl ?_
          exact hj9 hf
        · refine g_aload_n C 0 dX5_pay_59 rfl rfl ?_
          refine g_iload C 4 dX5_pay_60 rfl ?_
          refine g_iconst C dX5_pay_62 ic_4 ?_
          obtain ⟨r11, hc10, hf⟩ := g_bind hf
          refine g_callVi C (mX5_debtAt l0 D0 K0 h σ v4 (4 : Int32) hc10) gX5_pay_X5_debtAt rfl rfl rfl ddX5_debtAt ⟨(Nat.le_of_ble_eq_true rfl), (Nat.le_of_ble_eq_true rfl)⟩ rfl (Nat.le_of_ble_eq_true rfl) rfl rfl rfl (Nat.le_of_ble_eq_true rfl) dX5_pay_63 ?_
          refine g_iload_n C 2 dX5_pay_66 rfl rfl ?_
          refine g_join (P := fun j => j = some (r, u) → G wM h X 102 [(0, .ref (h 0)), (1, .int p1), (2, .int p2), (4, .int v4)] [] σ) hf (fun hf => ?_) (fun j12 hj12 hf => ?_)
          · refine g_iconst C dX5_pay_102 ic_1 ?_
            refine g_goto (tgt := 107) C dX5_pay_103 (by decide) ?_
            refine g_istore_n C [1, 2, 3, 0, 4] dX5_pay_107 rfl (Nat.le_of_ble_eq_true rfl) rfl ?_
            refine g_iinc C 4 [1, 2, 3, 4, 0] dX5_pay_108 rfl ic_1 (Nat.le_of_ble_eq_true rfl) rfl ?_
            refine g_goto (tgt := 46) C dX5_pay_111 (by decide) ?_
            exact ih (1 : Int32) (v4 + (1 : Int32)) hf
          · refine g_icmp_ne (tgt := 102) hf C dX5_pay_67 (by decide) (fun hf => ?_) (fun hf => ?_)
            · refine g_lv [0, 1, 2, 4] rfl ?_
              exact hj12 hf
            · refine g_aload_n C 0 dX5_pay_70 rfl rfl ?_
              refine g_iload C 4 dX5_pay_71 rfl ?_
              refine g_iconst C dX5_pay_73 ic_0 ?_
              obtain ⟨r14, hc13, hf⟩ := g_bind hf
              refine g_callVi C (mX5_debtAt l0 D0 K0 h σ v4 (0 : Int32) hc13) gX5_pay_X5_debtAt rfl rfl rfl ddX5_debtAt ⟨(Nat.le_of_ble_eq_true rfl), (Nat.le_of_ble_eq_true rfl)⟩ rfl (Nat.le_of_ble_eq_true rfl) rfl rfl rfl (Nat.le_of_ble_eq_true rfl) dX5_pay_74 ?_
              refine g_aload_n C 0 dX5_pay_77 rfl rfl ?_
              refine g_iload_n C 1 dX5_pay_78 rfl rfl ?_
              refine g_iconst C dX5_pay_79 ic_0 ?_
              obtain ⟨r16, hc15, hf⟩ := g_bind hf
              refine g_callVi C (mX5_debtAt l0 D0 K0 h σ p1 (0 : Int32) hc15) gX5_pay_X5_debtAt rfl rfl rfl ddX5_debtAt ⟨(Nat.le_of_ble_eq_true rfl), (Nat.le_of_ble_eq_true rfl)⟩ rfl (Nat.le_of_ble_eq_true rfl) rfl rfl rfl (Nat.le_of_ble_eq_true rfl) dX5_pay_80 ?_
              refine g_icmp_eq (tgt := 106) hf C dX5_pay_83 (by decide) (fun hf => ?_) (fun hf => ?_)
              · refine g_lv [0, 1, 2, 4] rfl ?_
                exact hj9 hf
              · refine g_aload_n C 0 dX5_pay_86 rfl rfl ?_
                refine g_iload C 4 dX5_pay_87 rfl ?_
                refine g_iconst C dX5_pay_89 ic_1 ?_
                obtain ⟨r18, hc17, hf⟩ := g_bind hf
                refine g_callVi C (mX5_debtAt l0 D0 K0 h σ v4 (1 : Int32) hc17) gX5_pay_X5_debtAt rfl rfl rfl ddX5_debtAt ⟨(Nat.le_of_ble_eq_true rfl), (Nat.le_of_ble_eq_true rfl)⟩ rfl (Nat.le_of_ble_eq_true rfl) rfl rfl rfl (Nat.le_of_ble_eq_true rfl) dX5_pay_90 ?_
                refine g_aload_n C 0 dX5_pay_93 rfl rfl ?_
                refine g_iload_n C 1 dX5_pay_94 rfl rfl ?_
                refine g_iconst C dX5_pay_95 ic_1 ?_
                obtain ⟨r20, hc19, hf⟩ := g_bind hf
                refine g_callVi C (mX5_debtAt l0 D0 K0 h σ p1 (1 : Int32) hc19) gX5_pay_X5_debtAt rfl rfl rfl ddX5_debtAt ⟨(Nat.le_of_ble_eq_true rfl), (Nat.le_of_ble_eq_true rfl)⟩ rfl (Nat.le_of_ble_eq_true rfl) rfl rfl rfl (Nat.le_of_ble_eq_true rfl) dX5_pay_96 ?_
                refine g_icmp_eq (tgt := 106) hf C dX5_pay_99 (by decide) (fun hf => ?_) (fun hf => ?_)
                · refine g_lv [0, 1, 2, 4] rfl ?_
                  exact hj9 hf
                · refine g_lv [0, 1, 2, 4] rfl ?_
                  exact hj12 hf
set_option maxHeartbeats 4000000 in
set_option maxRecDepth 100000 in
theorem mX5_pay (l0 : Launch) (D0 : va_G) (K0 : Nat → ClassId) (h : Nat → Nat) (σ : pS) (a1 : Int32) (a2 : Int32) {r : Int32} {u : pS} (hf : fX5_pay σ a1 a2 = some (r, u)) : Met l0 yX5_pay wsX5_pay ({ frames := 5, cells := 0, slots := 0, locals := 110 } : Room) (va_Pc [.ref (h 0), .int a1, .int a2] (pIn wM D0 K0 h σ)) (va_Qi (fun r' u' => r' = r ∧ u' = u) (pOut wM D0 K0 h) (pA wM h)) 0 0 (pA wM h) := by
  refine p_metI (lv := [(0, .ref (h 0)), (1, .int a1), (2, .int a2)]) (by decide +kernel) rfl rfl (Nat.le_of_ble_eq_true rfl) rfl (fun X C hret => ?_)
  unfold fX5_pay at hf
  refine g_aload_n C 0 dX5_pay_0 rfl rfl ?_
  refine g_iload_n C 1 dX5_pay_1 rfl rfl ?_
  obtain ⟨r2, hc1, hf⟩ := g_bind hf
  refine g_callVi C (mX5_isDebt l0 D0 K0 h σ a1 hc1) gX5_pay_X5_isDebt rfl rfl rfl ddX5_isDebt ⟨(Nat.le_of_ble_eq_true rfl), (Nat.le_of_ble_eq_true rfl)⟩ rfl (Nat.le_of_ble_eq_true rfl) rfl rfl rfl (Nat.le_of_ble_eq_true rfl) dX5_pay_2 ?_
  refine g_if_eq (tgt := 15) hf C dX5_pay_5 (by decide) (fun hf => ?_) (fun hf => ?_)
  · refine g_iconst C dX5_pay_15 ic_m1 ?_
    exact g_retiW hf hret dX5_pay_16
  · refine g_iload_n C 2 dX5_pay_8 rfl rfl ?_
    obtain ⟨r4, hc3, hf⟩ := g_bind hf
    refine g_callSi C (mX5_isHour l0 D0 K0 h σ a2 hc3) gX5_pay_X5_isHour rfl rfl rfl ddX5_isHour ⟨(Nat.le_of_ble_eq_true rfl), (Nat.le_of_ble_eq_true rfl)⟩ rfl rfl (Nat.le_of_ble_eq_true rfl) dX5_pay_9 ?_
    refine g_if_ne (tgt := 17) hf C dX5_pay_12 (by decide) (fun hf => ?_) (fun hf => ?_)
    · refine g_aload_n C 0 dX5_pay_17 rfl rfl ?_
      refine g_iload_n C 1 dX5_pay_18 rfl rfl ?_
      refine g_iconst C dX5_pay_19 ic_4 ?_
      obtain ⟨r6, hc5, hf⟩ := g_bind hf
      refine g_callVi C (mX5_debtAt l0 D0 K0 h σ a1 (4 : Int32) hc5) gX5_pay_X5_debtAt rfl rfl rfl ddX5_debtAt ⟨(Nat.le_of_ble_eq_true rfl), (Nat.le_of_ble_eq_true rfl)⟩ rfl (Nat.le_of_ble_eq_true rfl) rfl rfl rfl (Nat.le_of_ble_eq_true rfl) dX5_pay_20 ?_
      refine g_bipush C dX5_pay_23 bp_m9 ?_
      refine g_join (P := fun j => ∀ (y8 : Int32), j y8 = some (r, u) → G wM h X 42 [(0, .ref (h 0)), (1, .int a1), (2, .int a2)] [.int y8] σ) hf (fun y8 hf => ?_) (fun j7 hj7 hf => ?_)
      · refine g_istore_n C [1, 2, 3, 0] dX5_pay_42 rfl (Nat.le_of_ble_eq_true rfl) rfl ?_
        refine g_iconst C dX5_pay_43 ic_0 ?_
        refine g_istore C [1, 2, 3, 4, 0] dX5_pay_44 (Nat.le_of_ble_eq_true rfl) rfl ?_
        refine lX5_pay_46_ok σ a1 a2 C hret (fun y21 hf => ?_) FU y8 (0 : Int32) hf
        refine g_iload_n C 3 dX5_pay_114 rfl rfl ?_
        refine g_if_ne (tgt := 121) hf C dX5_pay_115 (by decide) (fun hf => ?_) (fun hf => ?_)
        · refine g_aload_n C 0 dX5_pay_121 rfl rfl ?_
          refine g_getC (n := 8) C in_X5_pay_X5 (k := 13) lk_X5_pay_1 rfl (Nat.le_of_ble_eq_true rfl) rfl (Nat.le_of_ble_eq_true rfl) rfl dX5_pay_122 ?_
          refine g_iconst C dX5_pay_125 ic_5 ?_
          refine g_iload_n C 1 dX5_pay_126 rfl rfl ?_
          refine g_imul C dX5_pay_127 ?_
          refine g_iconst C dX5_pay_128 ic_4 ?_
          refine g_iadd C dX5_pay_129 ?_
          refine g_iload_n C 2 dX5_pay_130 rfl rfl ?_
          refine g_iast hf C rfl (Nat.le_of_ble_eq_true rfl) dX5_pay_131 (fun hf => ?_)
          refine g_lets hf (fun σ22 hf => ?_)
          refine g_aload_n C 0 dX5_pay_132 rfl rfl ?_
          refine g_iload_n C 1 dX5_pay_133 rfl rfl ?_
          refine g_iload_n C 2 dX5_pay_134 rfl rfl ?_
          obtain ⟨r24, hc23, hf⟩ := g_bind hf
          refine g_callVi C (mX5_costOf l0 D0 K0 h σ22 a1 a2 hc23) gX5_pay_X5_costOf rfl rfl rfl ddX5_costOf ⟨(Nat.le_of_ble_eq_true rfl), (Nat.le_of_ble_eq_true rfl)⟩ rfl (Nat.le_of_ble_eq_true rfl) rfl rfl rfl (Nat.le_of_ble_eq_true rfl) dX5_pay_135 ?_
          exact g_retiW hf hret dX5_pay_138
        · refine g_bipush C dX5_pay_118 bp_m4 ?_
          exact g_retiW hf hret dX5_pay_120
      · refine g_icmp_ne (tgt := 41) hf C dX5_pay_25 (by decide) (fun hf => ?_) (fun hf => ?_)
        · refine g_iconst C dX5_pay_41 ic_0 ?_
          exact hj7 (0 : Int32) hf
        · refine g_aload_n C 0 dX5_pay_28 rfl rfl ?_
          refine g_iload_n C 1 dX5_pay_29 rfl rfl ?_
          refine g_iload_n C 2 dX5_pay_30 rfl rfl ?_
          obtain ⟨r26, hc25, hf⟩ := g_bind hf
          refine g_callVi C (mX5_canPay l0 D0 K0 h σ a1 a2 hc25) gX5_pay_X5_canPay rfl rfl rfl ddX5_canPay ⟨(Nat.le_of_ble_eq_true rfl), (Nat.le_of_ble_eq_true rfl)⟩ rfl (Nat.le_of_ble_eq_true rfl) rfl rfl rfl (Nat.le_of_ble_eq_true rfl) dX5_pay_31 ?_
          refine g_if_eq (tgt := 41) hf C dX5_pay_34 (by decide) (fun hf => ?_) (fun hf => ?_)
          · refine g_iconst C dX5_pay_41 ic_0 ?_
            exact hj7 (0 : Int32) hf
          · refine g_iconst C dX5_pay_37 ic_1 ?_
            refine g_goto (tgt := 42) C dX5_pay_38 (by decide) ?_
            exact hj7 (1 : Int32) hf
    · refine g_iconst C dX5_pay_15 ic_m1 ?_
      exact g_retiW hf hret dX5_pay_16
/-! X5_unpay -/
theorem in_X5_unpay_X5 : ∀ q ∈ u_ws RX5 TX5 30, q ∈ wsX5_unpay := by decide +kernel
theorem lk_X5_unpay_0 : Cond.fieldLink RX5 32 "EmptyHouseModel" "debts" "[I" ∈ wsX5_unpay := by decide +kernel
theorem ddX5_unpay : yX5_unpay.cls = RX5 ∧ yX5_unpay.cls ≠ "java/lang/invoke/MethodHandle" ∧ yX5_unpay.cls ≠ "java/lang/invoke/VarHandle" ∧ (parseMethodDescriptor yX5_unpay.desc).map (fun d => d.parameters.length) = some 1 := by decide +kernel
set_option maxHeartbeats 4000000 in
set_option maxRecDepth 100000 in
theorem mX5_unpay (l0 : Launch) (D0 : va_G) (K0 : Nat → ClassId) (h : Nat → Nat) (σ : pS) (a1 : Int32) {r : Int32} {u : pS} (hf : fX5_unpay σ a1 = some (r, u)) : Met l0 yX5_unpay wsX5_unpay ({ frames := 2, cells := 0, slots := 0, locals := 43 } : Room) (va_Pc [.ref (h 0), .int a1] (pIn wM D0 K0 h σ)) (va_Qi (fun r' u' => r' = r ∧ u' = u) (pOut wM D0 K0 h) (pA wM h)) 0 0 (pA wM h) := by
  refine p_metI (lv := [(0, .ref (h 0)), (1, .int a1)]) (by decide +kernel) rfl rfl (Nat.le_of_ble_eq_true rfl) rfl (fun X C hret => ?_)
  unfold fX5_unpay at hf
  refine g_aload_n C 0 dX5_unpay_0 rfl rfl ?_
  refine g_iload_n C 1 dX5_unpay_1 rfl rfl ?_
  obtain ⟨r2, hc1, hf⟩ := g_bind hf
  refine g_callVi C (mX5_isDebt l0 D0 K0 h σ a1 hc1) gX5_unpay_X5_isDebt rfl rfl rfl ddX5_isDebt ⟨(Nat.le_of_ble_eq_true rfl), (Nat.le_of_ble_eq_true rfl)⟩ rfl (Nat.le_of_ble_eq_true rfl) rfl rfl rfl (Nat.le_of_ble_eq_true rfl) dX5_unpay_2 ?_
  refine g_if_ne (tgt := 10) hf C dX5_unpay_5 (by decide) (fun hf => ?_) (fun hf => ?_)
  · refine g_aload_n C 0 dX5_unpay_10 rfl rfl ?_
    refine g_iload_n C 1 dX5_unpay_11 rfl rfl ?_
    refine g_iconst C dX5_unpay_12 ic_4 ?_
    obtain ⟨r4, hc3, hf⟩ := g_bind hf
    refine g_callVi C (mX5_debtAt l0 D0 K0 h σ a1 (4 : Int32) hc3) gX5_unpay_X5_debtAt rfl rfl rfl ddX5_debtAt ⟨(Nat.le_of_ble_eq_true rfl), (Nat.le_of_ble_eq_true rfl)⟩ rfl (Nat.le_of_ble_eq_true rfl) rfl rfl rfl (Nat.le_of_ble_eq_true rfl) dX5_unpay_13 ?_
    refine g_istore_n C [1, 2, 0] dX5_unpay_16 rfl (Nat.le_of_ble_eq_true rfl) rfl ?_
    refine g_iload_n C 2 dX5_unpay_17 rfl rfl ?_
    refine g_bipush C dX5_unpay_18 bp_m9 ?_
    refine g_icmp_ne (tgt := 26) hf C dX5_unpay_20 (by decide) (fun hf => ?_) (fun hf => ?_)
    · refine g_aload_n C 0 dX5_unpay_26 rfl rfl ?_
      refine g_getC (n := 8) C in_X5_unpay_X5 (k := 13) lk_X5_unpay_0 rfl (Nat.le_of_ble_eq_true rfl) rfl (Nat.le_of_ble_eq_true rfl) rfl dX5_unpay_27 ?_
      refine g_iconst C dX5_unpay_30 ic_5 ?_
      refine g_iload_n C 1 dX5_unpay_31 rfl rfl ?_
      refine g_imul C dX5_unpay_32 ?_
      refine g_iconst C dX5_unpay_33 ic_4 ?_
      refine g_iadd C dX5_unpay_34 ?_
      refine g_bipush C dX5_unpay_35 bp_m9 ?_
      refine g_iast hf C rfl (Nat.le_of_ble_eq_true rfl) dX5_unpay_37 (fun hf => ?_)
      refine g_lets hf (fun σ5 hf => ?_)
      refine g_iload_n C 2 dX5_unpay_38 rfl rfl ?_
      exact g_retiW hf hret dX5_unpay_39
    · refine g_bipush C dX5_unpay_23 bp_m4 ?_
      exact g_retiW hf hret dX5_unpay_25
  · refine g_iconst C dX5_unpay_8 ic_m1 ?_
    exact g_retiW hf hret dX5_unpay_9
/-! X5_paidNow -/
theorem in_X5_paidNow_X5 : ∀ q ∈ u_ws RX5 TX5 30, q ∈ wsX5_paidNow := by decide +kernel
theorem lk_X5_paidNow_0 : Cond.fieldLink RX5 143 "EmptyHouseModel" "debtMany" "I" ∈ wsX5_paidNow := by decide +kernel
theorem ddX5_paidNow : yX5_paidNow.cls = RX5 ∧ yX5_paidNow.cls ≠ "java/lang/invoke/MethodHandle" ∧ yX5_paidNow.cls ≠ "java/lang/invoke/VarHandle" ∧ (parseMethodDescriptor yX5_paidNow.desc).map (fun d => d.parameters.length) = some 0 := by decide +kernel
set_option maxHeartbeats 4000000 in
set_option maxRecDepth 100000 in
theorem lX5_paidNow_4_ok {h : Nat → Nat} {X : Cx} {l0 : Launch} {D0 : va_G} {K0 : Nat → ClassId} (σ : pS) {k37 : Int32 → Option Int32} {r : Int32} (C : Cok wM h X l0 ({ frames := 1, cells := 0, slots := 0, locals := 22 } : Room) D0 K0 cX5_paidNow 3 RX5 wsX5_paidNow) (hret : ∀ (pc : Nat) (lv' : List (Nat × Value)), decode cX5_paidNow pc = .ok (.ireturn, 1) → G wM h X pc lv' [.int r] σ) (hk37 : ∀ (z1 : Int32), k37 z1 = some r → G wM h X 37 [(1, .int z1)] [] σ) : ∀ (F : Nat) (v1 : Int32) (v2 : Int32), lX5_paidNow_4 σ k37 F v1 v2 = some r → G wM h X 4 [(0, .ref (h 0)), (1, .int v1), (2, .int v2)] [] σ := by
  intro F
  induction F with
  | zero => intro v1 v2 hf; exact absurd hf (by simp [lX5_paidNow_4])
  | succ F ih =>
    intro v1 v2 hf
    rw [lX5_paidNow_4.eq_2] at hf
    refine g_iload_n C 2 dX5_paidNow_4 rfl rfl ?_
    refine g_aload_n C 0 dX5_paidNow_5 rfl rfl ?_
    refine g_getI C in_X5_paidNow_X5 (k := 12) lk_X5_paidNow_0 rfl (Nat.le_of_ble_eq_true rfl) rfl (Nat.le_of_ble_eq_true rfl) rfl dX5_paidNow_6 ?_
    refine g_icmp_ge (tgt := 37) hf C dX5_paidNow_9 (by decide) (fun hf => ?_) (fun hf => ?_)
    · refine g_lv [1] rfl ?_
      exact hk37 v1 hf
    · refine g_iload_n C 1 dX5_paidNow_12 rfl rfl ?_
      refine g_aload_n C 0 dX5_paidNow_13 rfl rfl ?_
      refine g_iload_n C 2 dX5_paidNow_14 rfl rfl ?_
      refine g_iconst C dX5_paidNow_15 ic_4 ?_
      obtain ⟨r2, hc1, hf⟩ := g_bind hf
      refine g_callVi C (mX5_debtAt l0 D0 K0 h σ v2 (4 : Int32) hc1) gX5_paidNow_X5_debtAt rfl rfl rfl ddX5_debtAt ⟨(Nat.le_of_ble_eq_true rfl), (Nat.le_of_ble_eq_true rfl)⟩ rfl (Nat.le_of_ble_eq_true rfl) rfl rfl rfl (Nat.le_of_ble_eq_true rfl) dX5_paidNow_16 ?_
      refine g_bipush C dX5_paidNow_19 bp_m9 ?_
      refine g_join (P := fun j => ∀ (y4 : Int32), j y4 = some r → G wM h X 29 [(0, .ref (h 0)), (2, .int v2)] [.int y4, .int v1] σ) hf (fun y4 hf => ?_) (fun j3 hj3 hf => ?_)
      · refine g_iadd C dX5_paidNow_29 ?_
        refine g_leti hf (fun x5 hf => ?_)
        refine g_istore_n C [1, 0, 2] dX5_paidNow_30 rfl (Nat.le_of_ble_eq_true rfl) rfl ?_
        refine g_iinc C 2 [1, 2, 0] dX5_paidNow_31 rfl ic_1 (Nat.le_of_ble_eq_true rfl) rfl ?_
        refine g_goto (tgt := 4) C dX5_paidNow_34 (by decide) ?_
        exact ih x5 (v2 + (1 : Int32)) hf
      · refine g_icmp_ne (tgt := 28) hf C dX5_paidNow_21 (by decide) (fun hf => ?_) (fun hf => ?_)
        · refine g_iconst C dX5_paidNow_28 ic_1 ?_
          refine g_lv [0, 2] rfl ?_
          exact hj3 (1 : Int32) hf
        · refine g_iconst C dX5_paidNow_24 ic_0 ?_
          refine g_goto (tgt := 29) C dX5_paidNow_25 (by decide) ?_
          refine g_lv [0, 2] rfl ?_
          exact hj3 (0 : Int32) hf
set_option maxHeartbeats 4000000 in
set_option maxRecDepth 100000 in
theorem mX5_paidNow (l0 : Launch) (D0 : va_G) (K0 : Nat → ClassId) (h : Nat → Nat) (σ : pS)  {r : Int32} (hf : fX5_paidNow σ = some r) : Met l0 yX5_paidNow wsX5_paidNow ({ frames := 1, cells := 0, slots := 0, locals := 22 } : Room) (va_Pc [.ref (h 0)] (pIn wM D0 K0 h σ)) (va_Qi (fun r' u' => r' = r ∧ u' = σ) (pOut wM D0 K0 h) (pA wM h)) 0 0 (pA wM h) := by
  refine p_metI (lv := [(0, .ref (h 0))]) (by decide +kernel) rfl rfl (Nat.le_of_ble_eq_true rfl) rfl (fun X C hret => ?_)
  unfold fX5_paidNow at hf
  refine g_iconst C dX5_paidNow_0 ic_0 ?_
  refine g_istore_n C [1, 0] dX5_paidNow_1 rfl (Nat.le_of_ble_eq_true rfl) rfl ?_
  refine g_iconst C dX5_paidNow_2 ic_0 ?_
  refine g_istore_n C [1, 2, 0] dX5_paidNow_3 rfl (Nat.le_of_ble_eq_true rfl) rfl ?_
  refine lX5_paidNow_4_ok σ C hret (fun y6 hf => ?_) FU (0 : Int32) (0 : Int32) hf
  refine g_iload_n C 0 dX5_paidNow_37 rfl rfl ?_
  exact g_reti hf hret dX5_paidNow_38
/-! X5_paid -/
theorem in_X5_paid_X5 : ∀ q ∈ u_ws RX5 TX5 30, q ∈ wsX5_paid := by decide +kernel
theorem lk_X5_paid_0 : Cond.fieldLink RX5 143 "EmptyHouseModel" "debtMany" "I" ∈ wsX5_paid := by decide +kernel
theorem ddX5_paid : yX5_paid.cls = RX5 ∧ yX5_paid.cls ≠ "java/lang/invoke/MethodHandle" ∧ yX5_paid.cls ≠ "java/lang/invoke/VarHandle" ∧ (parseMethodDescriptor yX5_paid.desc).map (fun d => d.parameters.length) = some 0 := by decide +kernel
set_option maxHeartbeats 4000000 in
set_option maxRecDepth 100000 in
theorem lX5_paid_6_ok {h : Nat → Nat} {X : Cx} {l0 : Launch} {D0 : va_G} {K0 : Nat → ClassId} (σ : pS) {k80 : Int32 → Int32 → Option (Int32 × pS)} {r : Int32} {u : pS} (C : Cok wM h X l0 ({ frames := 2, cells := 0, slots := 0, locals := 44 } : Room) D0 K0 cX5_paid 5 RX5 wsX5_paid) (hret : ∀ (pc : Nat) (lv' : List (Nat × Value)), decode cX5_paid pc = .ok (.ireturn, 1) → G wM h X pc lv' [.int r] u) (hk80 : ∀ (z1 : Int32) (z2 : Int32), k80 z1 z2 = some (r, u) → G wM h X 80 [(0, .ref (h 0)), (1, .int z1), (2, .int z2)] [] σ) : ∀ (F : Nat) (v1 : Int32) (v2 : Int32) (v3 : Int32), lX5_paid_6 σ k80 F v1 v2 v3 = some (r, u) → G wM h X 6 [(0, .ref (h 0)), (1, .int v1), (2, .int v2), (3, .int v3)] [] σ := by
  intro F
  induction F with
  | zero => intro v1 v2 v3 hf; exact absurd hf (by simp [lX5_paid_6])
  | succ F ih =>
    intro v1 v2 v3 hf
    rw [lX5_paid_6.eq_2] at hf
    refine g_iload_n C 3 dX5_paid_6 rfl rfl ?_
    refine g_aload_n C 0 dX5_paid_7 rfl rfl ?_
    refine g_getI C in_X5_paid_X5 (k := 12) lk_X5_paid_0 rfl (Nat.le_of_ble_eq_true rfl) rfl (Nat.le_of_ble_eq_true rfl) rfl dX5_paid_8 ?_
    refine g_icmp_ge (tgt := 80) hf C dX5_paid_11 (by decide) (fun hf => ?_) (fun hf => ?_)
    · refine g_lv [0, 1, 2] rfl ?_
      exact hk80 v1 v2 hf
    · refine g_aload_n C 0 dX5_paid_14 rfl rfl ?_
      refine g_iload_n C 3 dX5_paid_15 rfl rfl ?_
      refine g_iconst C dX5_paid_16 ic_4 ?_
      obtain ⟨r2, hc1, hf⟩ := g_bind hf
      refine g_callVi C (mX5_debtAt l0 D0 K0 h σ v3 (4 : Int32) hc1) gX5_paid_X5_debtAt rfl rfl rfl ddX5_debtAt ⟨(Nat.le_of_ble_eq_true rfl), (Nat.le_of_ble_eq_true rfl)⟩ rfl (Nat.le_of_ble_eq_true rfl) rfl rfl rfl (Nat.le_of_ble_eq_true rfl) dX5_paid_17 ?_
      refine g_bipush C dX5_paid_20 bp_m9 ?_
      refine g_join (P := fun j => ∀ (y4 : Int32), j y4 = some (r, u) → G wM h X 30 [(0, .ref (h 0)), (1, .int v1), (2, .int v2), (3, .int v3)] [.int y4] σ) hf (fun y4 hf => ?_) (fun j3 hj3 hf => ?_)
      · refine g_istore C [1, 2, 3, 4, 0] dX5_paid_30 (Nat.le_of_ble_eq_true rfl) rfl ?_
        refine g_iload_n C 1 dX5_paid_32 rfl rfl ?_
        refine g_iload C 4 dX5_paid_33 rfl ?_
        refine g_join (P := fun j => ∀ (y6 : Int32), j y6 = some (r, u) → G wM h X 53 [(0, .ref (h 0)), (2, .int v2), (3, .int v3), (4, .int y4)] [.int y6, .int v1] σ) hf (fun y6 hf => ?_) (fun j5 hj5 hf => ?_)
        · refine g_iadd C dX5_paid_53 ?_
          refine g_leti hf (fun x7 hf => ?_)
          refine g_istore_n C [1, 0, 2, 3, 4] dX5_paid_54 rfl (Nat.le_of_ble_eq_true rfl) rfl ?_
          refine g_iload_n C 2 dX5_paid_55 rfl rfl ?_
          refine g_iload C 4 dX5_paid_56 rfl ?_
          refine g_join (P := fun j => ∀ (y9 : Int32), j y9 = some (r, u) → G wM h X 72 [(0, .ref (h 0)), (1, .int x7), (3, .int v3)] [.int y9, .int v2] σ) hf (fun y9 hf => ?_) (fun j8 hj8 hf => ?_)
          · refine g_iadd C dX5_paid_72 ?_
            refine g_leti hf (fun x10 hf => ?_)
            refine g_istore_n C [1, 2, 0, 3] dX5_paid_73 rfl (Nat.le_of_ble_eq_true rfl) rfl ?_
            refine g_iinc C 3 [1, 2, 3, 0] dX5_paid_74 rfl ic_1 (Nat.le_of_ble_eq_true rfl) rfl ?_
            refine g_goto (tgt := 6) C dX5_paid_77 (by decide) ?_
            exact ih x7 x10 (v3 + (1 : Int32)) hf
          · refine g_if_eq (tgt := 65) hf C dX5_paid_58 (by decide) (fun hf => ?_) (fun hf => ?_)
            · refine g_aload_n C 0 dX5_paid_65 rfl rfl ?_
              refine g_iload_n C 3 dX5_paid_66 rfl rfl ?_
              refine g_bipush C dX5_paid_67 bp_12 ?_
              obtain ⟨r12, hc11, hf⟩ := g_bind hf
              refine g_callVi C (mX5_costOf l0 D0 K0 h σ v3 (12 : Int32) hc11) gX5_paid_X5_costOf rfl rfl rfl ddX5_costOf ⟨(Nat.le_of_ble_eq_true rfl), (Nat.le_of_ble_eq_true rfl)⟩ rfl (Nat.le_of_ble_eq_true rfl) rfl rfl rfl (Nat.le_of_ble_eq_true rfl) dX5_paid_69 ?_
              refine g_lv [0, 1, 3] rfl ?_
              exact hj8 r12 hf
            · refine g_iconst C dX5_paid_61 ic_0 ?_
              refine g_goto (tgt := 72) C dX5_paid_62 (by decide) ?_
              refine g_lv [0, 1, 3] rfl ?_
              exact hj8 (0 : Int32) hf
        · refine g_if_eq (tgt := 52) hf C dX5_paid_35 (by decide) (fun hf => ?_) (fun hf => ?_)
          · refine g_iconst C dX5_paid_52 ic_0 ?_
            refine g_lv [0, 2, 3, 4] rfl ?_
            exact hj5 (0 : Int32) hf
          · refine g_aload_n C 0 dX5_paid_38 rfl rfl ?_
            refine g_iload_n C 3 dX5_paid_39 rfl rfl ?_
            refine g_aload_n C 0 dX5_paid_40 rfl rfl ?_
            refine g_iload_n C 3 dX5_paid_41 rfl rfl ?_
            refine g_iconst C dX5_paid_42 ic_4 ?_
            obtain ⟨r14, hc13, hf⟩ := g_bind hf
            refine g_callVi C (mX5_debtAt l0 D0 K0 h σ v3 (4 : Int32) hc13) gX5_paid_X5_debtAt rfl rfl rfl ddX5_debtAt ⟨(Nat.le_of_ble_eq_true rfl), (Nat.le_of_ble_eq_true rfl)⟩ rfl (Nat.le_of_ble_eq_true rfl) rfl rfl rfl (Nat.le_of_ble_eq_true rfl) dX5_paid_43 ?_
            obtain ⟨r16, hc15, hf⟩ := g_bind hf
            refine g_callVi C (mX5_costOf l0 D0 K0 h σ v3 r14 hc15) gX5_paid_X5_costOf rfl rfl rfl ddX5_costOf ⟨(Nat.le_of_ble_eq_true rfl), (Nat.le_of_ble_eq_true rfl)⟩ rfl (Nat.le_of_ble_eq_true rfl) rfl rfl rfl (Nat.le_of_ble_eq_true rfl) dX5_paid_46 ?_
            refine g_goto (tgt := 53) C dX5_paid_49 (by decide) ?_
            refine g_lv [0, 2, 3, 4] rfl ?_
            exact hj5 r16 hf
      · refine g_icmp_eq (tgt := 29) hf C dX5_paid_22 (by decide) (fun hf => ?_) (fun hf => ?_)
        · refine g_iconst C dX5_paid_29 ic_0 ?_
          exact hj3 (0 : Int32) hf
        · refine g_iconst C dX5_paid_25 ic_1 ?_
          refine g_goto (tgt := 30) C dX5_paid_26 (by decide) ?_
          exact hj3 (1 : Int32) hf
set_option maxHeartbeats 4000000 in
set_option maxRecDepth 100000 in
theorem mX5_paid (l0 : Launch) (D0 : va_G) (K0 : Nat → ClassId) (h : Nat → Nat) (σ : pS)  {r : Int32} {u : pS} (hf : fX5_paid σ = some (r, u)) : Met l0 yX5_paid wsX5_paid ({ frames := 2, cells := 0, slots := 0, locals := 44 } : Room) (va_Pc [.ref (h 0)] (pIn wM D0 K0 h σ)) (va_Qi (fun r' u' => r' = r ∧ u' = u) (pOut wM D0 K0 h) (pA wM h)) 0 0 (pA wM h) := by
  refine p_metI (lv := [(0, .ref (h 0))]) (by decide +kernel) rfl rfl (Nat.le_of_ble_eq_true rfl) rfl (fun X C hret => ?_)
  unfold fX5_paid at hf
  refine g_iconst C dX5_paid_0 ic_0 ?_
  refine g_istore_n C [1, 0] dX5_paid_1 rfl (Nat.le_of_ble_eq_true rfl) rfl ?_
  refine g_iconst C dX5_paid_2 ic_0 ?_
  refine g_istore_n C [1, 2, 0] dX5_paid_3 rfl (Nat.le_of_ble_eq_true rfl) rfl ?_
  refine g_iconst C dX5_paid_4 ic_0 ?_
  refine g_istore_n C [1, 2, 3, 0] dX5_paid_5 rfl (Nat.le_of_ble_eq_true rfl) rfl ?_
  refine lX5_paid_6_ok σ C hret (fun y17 y18 hf => ?_) FU (0 : Int32) (0 : Int32) (0 : Int32) hf
  refine g_aload_n C 0 dX5_paid_80 rfl rfl ?_
  refine g_iload_n C 2 dX5_paid_81 rfl rfl ?_
  refine g_iload_n C 1 dX5_paid_82 rfl rfl ?_
  obtain ⟨r20, σ21, hc19, hf⟩ := g_pbind hf
  refine g_callVi C (mX5_tells l0 D0 K0 h σ y18 y17 hc19) gX5_paid_X5_tells rfl rfl rfl ddX5_tells ⟨(Nat.le_of_ble_eq_true rfl), (Nat.le_of_ble_eq_true rfl)⟩ rfl (Nat.le_of_ble_eq_true rfl) rfl rfl rfl (Nat.le_of_ble_eq_true rfl) dX5_paid_83 ?_
  exact g_retiW hf hret dX5_paid_86
/-! X5_keep -/
theorem in_X5_keep_X5 : ∀ q ∈ u_ws RX5 TX5 30, q ∈ wsX5_keep := by decide +kernel
theorem lk_X5_keep_0 : Cond.fieldLink RX5 143 "EmptyHouseModel" "debtMany" "I" ∈ wsX5_keep := by decide +kernel
theorem lk_X5_keep_1 : Cond.fieldLink RX5 61 "EmptyHouseModel" "books" "[I" ∈ wsX5_keep := by decide +kernel
theorem lk_X5_keep_2 : Cond.fieldLink RX5 58 "EmptyHouseModel" "isKept" "[Z" ∈ wsX5_keep := by decide +kernel
theorem ddX5_keep : yX5_keep.cls = RX5 ∧ yX5_keep.cls ≠ "java/lang/invoke/MethodHandle" ∧ yX5_keep.cls ≠ "java/lang/invoke/VarHandle" ∧ (parseMethodDescriptor yX5_keep.desc).map (fun d => d.parameters.length) = some 1 := by decide +kernel
set_option maxHeartbeats 4000000 in
set_option maxRecDepth 100000 in
theorem lX5_keep_13_ok {h : Nat → Nat} {X : Cx} {l0 : Launch} {D0 : va_G} {K0 : Nat → ClassId} (p1 : Int32) {k44 : pS → Option (Int32 × pS)} {r : Int32} {u : pS} (C : Cok wM h X l0 ({ frames := 2, cells := 0, slots := 0, locals := 44 } : Room) D0 K0 cX5_keep 3 RX5 wsX5_keep) (hret : ∀ (pc : Nat) (lv' : List (Nat × Value)), decode cX5_keep pc = .ok (.ireturn, 1) → G wM h X pc lv' [.int r] u) (hk44 : ∀  (σ : pS), k44 σ = some (r, u) → G wM h X 44 [(0, .ref (h 0)), (1, .int p1)] [] σ) : ∀ (F : Nat) (v2 : Int32) (σ : pS), lX5_keep_13 p1 k44 F v2 σ = some (r, u) → G wM h X 13 [(0, .ref (h 0)), (1, .int p1), (2, .int v2)] [] σ := by
  intro F
  induction F with
  | zero => intro v2 σ hf; exact absurd hf (by simp [lX5_keep_13])
  | succ F ih =>
    intro v2 σ hf
    rw [lX5_keep_13.eq_2] at hf
    refine g_iload_n C 2 dX5_keep_13 rfl rfl ?_
    refine g_aload_n C 0 dX5_keep_14 rfl rfl ?_
    refine g_getI C in_X5_keep_X5 (k := 12) lk_X5_keep_0 rfl (Nat.le_of_ble_eq_true rfl) rfl (Nat.le_of_ble_eq_true rfl) rfl dX5_keep_15 ?_
    refine g_icmp_ge (tgt := 44) hf C dX5_keep_18 (by decide) (fun hf => ?_) (fun hf => ?_)
    · refine g_lv [0, 1] rfl ?_
      exact hk44 σ hf
    · refine g_aload_n C 0 dX5_keep_21 rfl rfl ?_
      refine g_getC (n := 17) C in_X5_keep_X5 (k := 28) lk_X5_keep_1 rfl (Nat.le_of_ble_eq_true rfl) rfl (Nat.le_of_ble_eq_true rfl) rfl dX5_keep_22 ?_
      refine g_bipush C dX5_keep_25 bp_8 ?_
      refine g_iload_n C 1 dX5_keep_27 rfl rfl ?_
      refine g_imul C dX5_keep_28 ?_
      refine g_iload_n C 2 dX5_keep_29 rfl rfl ?_
      refine g_iadd C dX5_keep_30 ?_
      refine g_aload_n C 0 dX5_keep_31 rfl rfl ?_
      refine g_iload_n C 2 dX5_keep_32 rfl rfl ?_
      refine g_iconst C dX5_keep_33 ic_4 ?_
      obtain ⟨r4, hc3, hf⟩ := g_bind hf
      refine g_callVi C (mX5_debtAt l0 D0 K0 h σ v2 (4 : Int32) hc3) gX5_keep_X5_debtAt rfl rfl rfl ddX5_debtAt ⟨(Nat.le_of_ble_eq_true rfl), (Nat.le_of_ble_eq_true rfl)⟩ rfl (Nat.le_of_ble_eq_true rfl) rfl rfl rfl (Nat.le_of_ble_eq_true rfl) dX5_keep_34 ?_
      refine g_iast hf C rfl (Nat.le_of_ble_eq_true rfl) dX5_keep_37 (fun hf => ?_)
      refine g_lets hf (fun σ5 hf => ?_)
      refine g_iinc C 2 [1, 2, 0] dX5_keep_38 rfl ic_1 (Nat.le_of_ble_eq_true rfl) rfl ?_
      refine g_goto (tgt := 13) C dX5_keep_41 (by decide) ?_
      exact ih (v2 + (1 : Int32)) σ5 hf
set_option maxHeartbeats 4000000 in
set_option maxRecDepth 100000 in
theorem mX5_keep (l0 : Launch) (D0 : va_G) (K0 : Nat → ClassId) (h : Nat → Nat) (σ : pS) (a1 : Int32) {r : Int32} {u : pS} (hf : fX5_keep σ a1 = some (r, u)) : Met l0 yX5_keep wsX5_keep ({ frames := 2, cells := 0, slots := 0, locals := 44 } : Room) (va_Pc [.ref (h 0), .int a1] (pIn wM D0 K0 h σ)) (va_Qi (fun r' u' => r' = r ∧ u' = u) (pOut wM D0 K0 h) (pA wM h)) 0 0 (pA wM h) := by
  refine p_metI (lv := [(0, .ref (h 0)), (1, .int a1)]) (by decide +kernel) rfl rfl (Nat.le_of_ble_eq_true rfl) rfl (fun X C hret => ?_)
  unfold fX5_keep at hf
  refine g_iload_n C 1 dX5_keep_0 rfl rfl ?_
  refine g_iconst C dX5_keep_1 ic_0 ?_
  refine g_iconst C dX5_keep_2 ic_2 ?_
  obtain ⟨r2, hc1, hf⟩ := g_bind hf
  refine g_callSi C (mX5_in l0 D0 K0 h σ a1 (0 : Int32) (2 : Int32) hc1) gX5_keep_X5_in rfl rfl rfl ddX5_in ⟨(Nat.le_of_ble_eq_true rfl), (Nat.le_of_ble_eq_true rfl)⟩ rfl rfl (Nat.le_of_ble_eq_true rfl) dX5_keep_3 ?_
  refine g_if_ne (tgt := 11) hf C dX5_keep_6 (by decide) (fun hf => ?_) (fun hf => ?_)
  · refine g_iconst C dX5_keep_11 ic_0 ?_
    refine g_istore_n C [1, 2, 0] dX5_keep_12 rfl (Nat.le_of_ble_eq_true rfl) rfl ?_
    refine lX5_keep_13_ok a1 C hret (fun σ6 hf => ?_) FU (0 : Int32) σ hf
    refine g_aload_n C 0 dX5_keep_44 rfl rfl ?_
    refine g_getC (n := 16) C in_X5_keep_X5 (k := 27) lk_X5_keep_2 rfl (Nat.le_of_ble_eq_true rfl) rfl (Nat.le_of_ble_eq_true rfl) rfl dX5_keep_45 ?_
    refine g_iload_n C 1 dX5_keep_48 rfl rfl ?_
    refine g_iconst C dX5_keep_49 ic_1 ?_
    refine g_zast hf C rfl (Nat.le_of_ble_eq_true rfl) dX5_keep_50 (fun hf => ?_)
    refine g_lets hf (fun σ7 hf => ?_)
    refine g_aload_n C 0 dX5_keep_51 rfl rfl ?_
    obtain ⟨r9, hc8, hf⟩ := g_bind hf
    refine g_callVi C (mX5_paidNow l0 D0 K0 h σ7 hc8) gX5_keep_X5_paidNow rfl rfl rfl ddX5_paidNow ⟨(Nat.le_of_ble_eq_true rfl), (Nat.le_of_ble_eq_true rfl)⟩ rfl (Nat.le_of_ble_eq_true rfl) rfl rfl rfl (Nat.le_of_ble_eq_true rfl) dX5_keep_52 ?_
    exact g_retiW hf hret dX5_keep_55
  · refine g_iconst C dX5_keep_9 ic_m1 ?_
    exact g_retiW hf hret dX5_keep_10
/-! X5_on -/
theorem in_X5_on_X5 : ∀ q ∈ u_ws RX5 TX5 30, q ∈ wsX5_on := by decide +kernel
theorem lk_X5_on_0 : Cond.fieldLink RX5 58 "EmptyHouseModel" "isKept" "[Z" ∈ wsX5_on := by decide +kernel
theorem lk_X5_on_1 : Cond.fieldLink RX5 143 "EmptyHouseModel" "debtMany" "I" ∈ wsX5_on := by decide +kernel
theorem lk_X5_on_2 : Cond.fieldLink RX5 32 "EmptyHouseModel" "debts" "[I" ∈ wsX5_on := by decide +kernel
theorem lk_X5_on_3 : Cond.fieldLink RX5 61 "EmptyHouseModel" "books" "[I" ∈ wsX5_on := by decide +kernel
theorem ddX5_on : yX5_on.cls = RX5 ∧ yX5_on.cls ≠ "java/lang/invoke/MethodHandle" ∧ yX5_on.cls ≠ "java/lang/invoke/VarHandle" ∧ (parseMethodDescriptor yX5_on.desc).map (fun d => d.parameters.length) = some 1 := by decide +kernel
set_option maxHeartbeats 4000000 in
set_option maxRecDepth 100000 in
theorem lX5_on_28_ok {h : Nat → Nat} {X : Cx} {l0 : Launch} {D0 : va_G} {K0 : Nat → ClassId} (p1 : Int32) {k63 : pS → Option (Int32 × pS)} {r : Int32} {u : pS} (C : Cok wM h X l0 ({ frames := 2, cells := 0, slots := 0, locals := 44 } : Room) D0 K0 cX5_on 3 RX5 wsX5_on) (hret : ∀ (pc : Nat) (lv' : List (Nat × Value)), decode cX5_on pc = .ok (.ireturn, 1) → G wM h X pc lv' [.int r] u) (hk63 : ∀  (σ : pS), k63 σ = some (r, u) → G wM h X 63 [(0, .ref (h 0))] [] σ) : ∀ (F : Nat) (v2 : Int32) (σ : pS), lX5_on_28 p1 k63 F v2 σ = some (r, u) → G wM h X 28 [(0, .ref (h 0)), (1, .int p1), (2, .int v2)] [] σ := by
  intro F
  induction F with
  | zero => intro v2 σ hf; exact absurd hf (by simp [lX5_on_28])
  | succ F ih =>
    intro v2 σ hf
    rw [lX5_on_28.eq_2] at hf
    refine g_iload_n C 2 dX5_on_28 rfl rfl ?_
    refine g_aload_n C 0 dX5_on_29 rfl rfl ?_
    refine g_getI C in_X5_on_X5 (k := 12) lk_X5_on_1 rfl (Nat.le_of_ble_eq_true rfl) rfl (Nat.le_of_ble_eq_true rfl) rfl dX5_on_30 ?_
    refine g_icmp_ge (tgt := 63) hf C dX5_on_33 (by decide) (fun hf => ?_) (fun hf => ?_)
    · refine g_lv [0] rfl ?_
      exact hk63 σ hf
    · refine g_aload_n C 0 dX5_on_36 rfl rfl ?_
      refine g_getC (n := 8) C in_X5_on_X5 (k := 13) lk_X5_on_2 rfl (Nat.le_of_ble_eq_true rfl) rfl (Nat.le_of_ble_eq_true rfl) rfl dX5_on_37 ?_
      refine g_iconst C dX5_on_40 ic_5 ?_
      refine g_iload_n C 2 dX5_on_41 rfl rfl ?_
      refine g_imul C dX5_on_42 ?_
      refine g_iconst C dX5_on_43 ic_4 ?_
      refine g_iadd C dX5_on_44 ?_
      refine g_aload_n C 0 dX5_on_45 rfl rfl ?_
      refine g_getC (n := 17) C in_X5_on_X5 (k := 28) lk_X5_on_3 rfl (Nat.le_of_ble_eq_true rfl) rfl (Nat.le_of_ble_eq_true rfl) rfl dX5_on_46 ?_
      refine g_bipush C dX5_on_49 bp_8 ?_
      refine g_iload_n C 1 dX5_on_51 rfl rfl ?_
      refine g_imul C dX5_on_52 ?_
      refine g_iload_n C 2 dX5_on_53 rfl rfl ?_
      refine g_iadd C dX5_on_54 ?_
      refine g_iald hf C rfl (Nat.le_of_ble_eq_true rfl) dX5_on_55 (fun hf => ?_)
      refine g_iast hf C rfl (Nat.le_of_ble_eq_true rfl) dX5_on_56 (fun hf => ?_)
      refine g_lets hf (fun σ3 hf => ?_)
      refine g_iinc C 2 [1, 2, 0] dX5_on_57 rfl ic_1 (Nat.le_of_ble_eq_true rfl) rfl ?_
      refine g_goto (tgt := 28) C dX5_on_60 (by decide) ?_
      exact ih (v2 + (1 : Int32)) σ3 hf
set_option maxHeartbeats 4000000 in
set_option maxRecDepth 100000 in
theorem mX5_on (l0 : Launch) (D0 : va_G) (K0 : Nat → ClassId) (h : Nat → Nat) (σ : pS) (a1 : Int32) {r : Int32} {u : pS} (hf : fX5_on σ a1 = some (r, u)) : Met l0 yX5_on wsX5_on ({ frames := 2, cells := 0, slots := 0, locals := 44 } : Room) (va_Pc [.ref (h 0), .int a1] (pIn wM D0 K0 h σ)) (va_Qi (fun r' u' => r' = r ∧ u' = u) (pOut wM D0 K0 h) (pA wM h)) 0 0 (pA wM h) := by
  refine p_metI (lv := [(0, .ref (h 0)), (1, .int a1)]) (by decide +kernel) rfl rfl (Nat.le_of_ble_eq_true rfl) rfl (fun X C hret => ?_)
  unfold fX5_on at hf
  refine g_iload_n C 1 dX5_on_0 rfl rfl ?_
  refine g_iconst C dX5_on_1 ic_0 ?_
  refine g_iconst C dX5_on_2 ic_2 ?_
  obtain ⟨r2, hc1, hf⟩ := g_bind hf
  refine g_callSi C (mX5_in l0 D0 K0 h σ a1 (0 : Int32) (2 : Int32) hc1) gX5_on_X5_in rfl rfl rfl ddX5_in ⟨(Nat.le_of_ble_eq_true rfl), (Nat.le_of_ble_eq_true rfl)⟩ rfl rfl (Nat.le_of_ble_eq_true rfl) dX5_on_3 ?_
  refine g_if_ne (tgt := 11) hf C dX5_on_6 (by decide) (fun hf => ?_) (fun hf => ?_)
  · refine g_aload_n C 0 dX5_on_11 rfl rfl ?_
    refine g_getC (n := 16) C in_X5_on_X5 (k := 27) lk_X5_on_0 rfl (Nat.le_of_ble_eq_true rfl) rfl (Nat.le_of_ble_eq_true rfl) rfl dX5_on_12 ?_
    refine g_iload_n C 1 dX5_on_15 rfl rfl ?_
    refine g_zald hf C rfl (Nat.le_of_ble_eq_true rfl) dX5_on_16 (fun hf => ?_)
    refine g_if_ne (tgt := 26) hf C dX5_on_17 (by decide) (fun hf => ?_) (fun hf => ?_)
    · refine g_iconst C dX5_on_26 ic_0 ?_
      refine g_istore_n C [1, 2, 0] dX5_on_27 rfl (Nat.le_of_ble_eq_true rfl) rfl ?_
      refine lX5_on_28_ok a1 C hret (fun σ4 hf => ?_) FU (0 : Int32) σ hf
      refine g_aload_n C 0 dX5_on_63 rfl rfl ?_
      obtain ⟨r6, hc5, hf⟩ := g_bind hf
      refine g_callVi C (mX5_paidNow l0 D0 K0 h σ4 hc5) gX5_on_X5_paidNow rfl rfl rfl ddX5_paidNow ⟨(Nat.le_of_ble_eq_true rfl), (Nat.le_of_ble_eq_true rfl)⟩ rfl (Nat.le_of_ble_eq_true rfl) rfl rfl rfl (Nat.le_of_ble_eq_true rfl) dX5_on_64 ?_
      exact g_retiW hf hret dX5_on_67
    · refine g_aload_n C 0 dX5_on_20 rfl rfl ?_
      refine g_iconst C dX5_on_21 ic_1 ?_
      obtain ⟨r8, σ9, hc7, hf⟩ := g_pbind hf
      refine g_callVi C (mX5_meets l0 D0 K0 h σ (1 : Int32) hc7) gX5_on_X5_meets rfl rfl rfl ddX5_meets ⟨(Nat.le_of_ble_eq_true rfl), (Nat.le_of_ble_eq_true rfl)⟩ rfl (Nat.le_of_ble_eq_true rfl) rfl rfl rfl (Nat.le_of_ble_eq_true rfl) dX5_on_22 ?_
      exact g_retiW hf hret dX5_on_25
  · refine g_iconst C dX5_on_9 ic_m1 ?_
    exact g_retiW hf hret dX5_on_10
/-! X5_mustOf -/
theorem in_X5_mustOf_X5 : ∀ q ∈ u_ws RX5 TX5 30, q ∈ wsX5_mustOf := by decide +kernel
theorem lk_X5_mustOf_0 : Cond.fieldLink RX5 143 "EmptyHouseModel" "debtMany" "I" ∈ wsX5_mustOf := by decide +kernel
theorem lk_X5_mustOf_1 : Cond.fieldLink RX5 41 "EmptyHouseModel" "round" "[I" ∈ wsX5_mustOf := by decide +kernel
theorem lk_X5_mustOf_2 : Cond.fieldLink RX5 146 "EmptyHouseModel" "lawNow" "I" ∈ wsX5_mustOf := by decide +kernel
theorem ddX5_mustOf : yX5_mustOf.cls = RX5 ∧ yX5_mustOf.cls ≠ "java/lang/invoke/MethodHandle" ∧ yX5_mustOf.cls ≠ "java/lang/invoke/VarHandle" ∧ (parseMethodDescriptor yX5_mustOf.desc).map (fun d => d.parameters.length) = some 1 := by decide +kernel
set_option maxHeartbeats 4000000 in
set_option maxRecDepth 100000 in
theorem lX5_mustOf_4_ok {h : Nat → Nat} {X : Cx} {l0 : Launch} {D0 : va_G} {K0 : Nat → ClassId} (σ : pS) (p1 : Int32) {k152 : Int32 → Option Int32} {r : Int32} (C : Cok wM h X l0 ({ frames := 1, cells := 0, slots := 0, locals := 22 } : Room) D0 K0 cX5_mustOf 8 RX5 wsX5_mustOf) (hret : ∀ (pc : Nat) (lv' : List (Nat × Value)), decode cX5_mustOf pc = .ok (.ireturn, 1) → G wM h X pc lv' [.int r] σ) (hk152 : ∀ (z2 : Int32), k152 z2 = some r → G wM h X 152 [(2, .int z2)] [] σ) : ∀ (F : Nat) (v2 : Int32) (v3 : Int32), lX5_mustOf_4 σ p1 k152 F v2 v3 = some r → G wM h X 4 [(0, .ref (h 0)), (1, .int p1), (2, .int v2), (3, .int v3)] [] σ := by
  intro F
  induction F with
  | zero => intro v2 v3 hf; exact absurd hf (by simp [lX5_mustOf_4])
  | succ F ih =>
    intro v2 v3 hf
    rw [lX5_mustOf_4.eq_2] at hf
    refine g_iload_n C 3 dX5_mustOf_4 rfl rfl ?_
    refine g_aload_n C 0 dX5_mustOf_5 rfl rfl ?_
    refine g_getI C in_X5_mustOf_X5 (k := 12) lk_X5_mustOf_0 rfl (Nat.le_of_ble_eq_true rfl) rfl (Nat.le_of_ble_eq_true rfl) rfl dX5_mustOf_6 ?_
    refine g_icmp_ge (tgt := 152) hf C dX5_mustOf_9 (by decide) (fun hf => ?_) (fun hf => ?_)
    · refine g_lv [2] rfl ?_
      exact hk152 v2 hf
    · refine g_aload_n C 0 dX5_mustOf_12 rfl rfl ?_
      refine g_getC (n := 11) C in_X5_mustOf_X5 (k := 21) lk_X5_mustOf_1 rfl (Nat.le_of_ble_eq_true rfl) rfl (Nat.le_of_ble_eq_true rfl) rfl dX5_mustOf_13 ?_
      refine g_iload_n C 3 dX5_mustOf_16 rfl rfl ?_
      refine g_iald hf C rfl (Nat.le_of_ble_eq_true rfl) dX5_mustOf_17 (fun hf => ?_)
      refine g_bipush C dX5_mustOf_18 bp_m9 ?_
      refine g_icmp_eq (tgt := 146) hf C dX5_mustOf_20 (by decide) (fun hf => ?_) (fun hf => ?_)
      · refine g_iinc C 3 [1, 2, 3, 0] dX5_mustOf_146 rfl ic_1 (Nat.le_of_ble_eq_true rfl) rfl ?_
        refine g_goto (tgt := 4) C dX5_mustOf_149 (by decide) ?_
        exact ih v2 (v3 + (1 : Int32)) hf
      · refine g_aload_n C 0 dX5_mustOf_23 rfl rfl ?_
        refine g_iload_n C 3 dX5_mustOf_24 rfl rfl ?_
        refine g_iconst C dX5_mustOf_25 ic_1 ?_
        obtain ⟨r2, hc1, hf⟩ := g_bind hf
        refine g_callVi C (mX5_debtAt l0 D0 K0 h σ v3 (1 : Int32) hc1) gX5_mustOf_X5_debtAt rfl rfl rfl ddX5_debtAt ⟨(Nat.le_of_ble_eq_true rfl), (Nat.le_of_ble_eq_true rfl)⟩ rfl (Nat.le_of_ble_eq_true rfl) rfl rfl rfl (Nat.le_of_ble_eq_true rfl) dX5_mustOf_26 ?_
        refine g_istore C [1, 2, 3, 4, 0] dX5_mustOf_29 (Nat.le_of_ble_eq_true rfl) rfl ?_
        refine g_iload C 4 dX5_mustOf_31 rfl ?_
        refine g_iload_n C 1 dX5_mustOf_33 rfl rfl ?_
        refine g_join (P := fun j => ∀ (y4 : Int32), j y4 = some r → G wM h X 62 [(0, .ref (h 0)), (1, .int p1), (2, .int v2), (3, .int v3), (4, .int r2)] [.int y4] σ) hf (fun y4 hf => ?_) (fun j3 hj3 hf => ?_)
        · refine g_istore C [1, 2, 3, 4, 5, 0] dX5_mustOf_62 (Nat.le_of_ble_eq_true rfl) rfl ?_
          refine g_aload_n C 0 dX5_mustOf_64 rfl rfl ?_
          refine g_iload C 4 dX5_mustOf_65 rfl ?_
          obtain ⟨r6, hc5, hf⟩ := g_bind hf
          refine g_callVi C (mX5_kind l0 D0 K0 h σ r2 hc5) gX5_mustOf_X5_kind rfl rfl rfl ddX5_kind ⟨(Nat.le_of_ble_eq_true rfl), (Nat.le_of_ble_eq_true rfl)⟩ rfl (Nat.le_of_ble_eq_true rfl) rfl rfl rfl (Nat.le_of_ble_eq_true rfl) dX5_mustOf_67 ?_
          refine g_iconst C dX5_mustOf_70 ic_3 ?_
          refine g_join (P := fun j => ∀ (y8 : Int32), j y8 = some r → G wM h X 89 [(0, .ref (h 0)), (1, .int p1), (2, .int v2), (3, .int v3), (5, .int y4)] [.int y8] σ) hf (fun y8 hf => ?_) (fun j7 hj7 hf => ?_)
          · refine g_istore C [1, 2, 3, 4, 5, 0] dX5_mustOf_89 (Nat.le_of_ble_eq_true rfl) rfl ?_
            refine g_aload_n C 0 dX5_mustOf_91 rfl rfl ?_
            refine g_iload_n C 3 dX5_mustOf_92 rfl rfl ?_
            refine g_iconst C dX5_mustOf_93 ic_0 ?_
            obtain ⟨r10, hc9, hf⟩ := g_bind hf
            refine g_callVi C (mX5_debtAt l0 D0 K0 h σ v3 (0 : Int32) hc9) gX5_mustOf_X5_debtAt rfl rfl rfl ddX5_debtAt ⟨(Nat.le_of_ble_eq_true rfl), (Nat.le_of_ble_eq_true rfl)⟩ rfl (Nat.le_of_ble_eq_true rfl) rfl rfl rfl (Nat.le_of_ble_eq_true rfl) dX5_mustOf_94 ?_
            refine g_iload_n C 1 dX5_mustOf_97 rfl rfl ?_
            refine g_join (P := fun j => ∀ (y12 : Int32), j y12 = some r → G wM h X 124 [(0, .ref (h 0)), (1, .int p1), (2, .int v2), (3, .int v3)] [.int y12] σ) hf (fun y12 hf => ?_) (fun j11 hj11 hf => ?_)
            · refine g_istore C [1, 2, 3, 4, 0] dX5_mustOf_124 (Nat.le_of_ble_eq_true rfl) rfl ?_
              refine g_iload_n C 2 dX5_mustOf_126 rfl rfl ?_
              refine g_iload C 4 dX5_mustOf_127 rfl ?_
              refine g_join (P := fun j => ∀ (y14 : Int32), j y14 = some r → G wM h X 144 [(0, .ref (h 0)), (1, .int p1), (3, .int v3)] [.int y14, .int v2] σ) hf (fun y14 hf => ?_) (fun j13 hj13 hf => ?_)
              · refine g_ior C dX5_mustOf_144 ?_
                refine g_leti hf (fun x15 hf => ?_)
                refine g_istore_n C [1, 2, 0, 3] dX5_mustOf_145 rfl (Nat.le_of_ble_eq_true rfl) rfl ?_
                refine g_iinc C 3 [1, 2, 3, 0] dX5_mustOf_146 rfl ic_1 (Nat.le_of_ble_eq_true rfl) rfl ?_
                refine g_goto (tgt := 4) C dX5_mustOf_149 (by decide) ?_
                exact ih x15 (v3 + (1 : Int32)) hf
              · refine g_if_eq (tgt := 143) hf C dX5_mustOf_129 (by decide) (fun hf => ?_) (fun hf => ?_)
                · refine g_iconst C dX5_mustOf_143 ic_0 ?_
                  refine g_lv [0, 1, 3] rfl ?_
                  exact hj13 (0 : Int32) hf
                · refine g_iconst C dX5_mustOf_132 ic_1 ?_
                  refine g_aload_n C 0 dX5_mustOf_133 rfl rfl ?_
                  refine g_getC (n := 11) C in_X5_mustOf_X5 (k := 21) lk_X5_mustOf_1 rfl (Nat.le_of_ble_eq_true rfl) rfl (Nat.le_of_ble_eq_true rfl) rfl dX5_mustOf_134 ?_
                  refine g_iload_n C 3 dX5_mustOf_137 rfl rfl ?_
                  refine g_iald hf C rfl (Nat.le_of_ble_eq_true rfl) dX5_mustOf_138 (fun hf => ?_)
                  refine g_ishl C dX5_mustOf_139 ?_
                  refine g_goto (tgt := 144) C dX5_mustOf_140 (by decide) ?_
                  refine g_lv [0, 1, 3] rfl ?_
                  exact hj13 ((1 : Int32) <<< ((pI σ 11 (v3).toNatClampNeg) &&& 31)) hf
            · refine g_icmp_eq (tgt := 119) hf C dX5_mustOf_98 (by decide) (fun hf => ?_) (fun hf => ?_)
              · refine g_iconst C dX5_mustOf_119 ic_1 ?_
                refine g_goto (tgt := 124) C dX5_mustOf_120 (by decide) ?_
                refine g_lv [0, 1, 2, 3] rfl ?_
                exact hj11 (1 : Int32) hf
              · refine g_aload_n C 0 dX5_mustOf_101 rfl rfl ?_
                refine g_getI C in_X5_mustOf_X5 (k := 14) lk_X5_mustOf_2 rfl (Nat.le_of_ble_eq_true rfl) rfl (Nat.le_of_ble_eq_true rfl) rfl dX5_mustOf_102 ?_
                refine g_iconst C dX5_mustOf_105 ic_3 ?_
                refine g_icmp_ge (tgt := 123) hf C dX5_mustOf_106 (by decide) (fun hf => ?_) (fun hf => ?_)
                · refine g_iconst C dX5_mustOf_123 ic_0 ?_
                  refine g_lv [0, 1, 2, 3] rfl ?_
                  exact hj11 (0 : Int32) hf
                · refine g_iload C 4 dX5_mustOf_109 rfl ?_
                  refine g_if_ne (tgt := 119) hf C dX5_mustOf_111 (by decide) (fun hf => ?_) (fun hf => ?_)
                  · refine g_iconst C dX5_mustOf_119 ic_1 ?_
                    refine g_goto (tgt := 124) C dX5_mustOf_120 (by decide) ?_
                    refine g_lv [0, 1, 2, 3] rfl ?_
                    exact hj11 (1 : Int32) hf
                  · refine g_iload C 5 dX5_mustOf_114 rfl ?_
                    refine g_if_eq (tgt := 123) hf C dX5_mustOf_116 (by decide) (fun hf => ?_) (fun hf => ?_)
                    · refine g_iconst C dX5_mustOf_123 ic_0 ?_
                      refine g_lv [0, 1, 2, 3] rfl ?_
                      exact hj11 (0 : Int32) hf
                    · refine g_iconst C dX5_mustOf_119 ic_1 ?_
                      refine g_goto (tgt := 124) C dX5_mustOf_120 (by decide) ?_
                      refine g_lv [0, 1, 2, 3] rfl ?_
                      exact hj11 (1 : Int32) hf
          · refine g_icmp_ne (tgt := 88) hf C dX5_mustOf_71 (by decide) (fun hf => ?_) (fun hf => ?_)
            · refine g_iconst C dX5_mustOf_88 ic_0 ?_
              refine g_lv [0, 1, 2, 3, 5] rfl ?_
              exact hj7 (0 : Int32) hf
            · refine g_aload_n C 0 dX5_mustOf_74 rfl rfl ?_
              refine g_iload C 4 dX5_mustOf_75 rfl ?_
              obtain ⟨r17, hc16, hf⟩ := g_bind hf
              refine g_callVi C (mX5_with l0 D0 K0 h σ r2 hc16) gX5_mustOf_X5_with rfl rfl rfl ddX5_with ⟨(Nat.le_of_ble_eq_true rfl), (Nat.le_of_ble_eq_true rfl)⟩ rfl (Nat.le_of_ble_eq_true rfl) rfl rfl rfl (Nat.le_of_ble_eq_true rfl) dX5_mustOf_77 ?_
              refine g_iload_n C 1 dX5_mustOf_80 rfl rfl ?_
              refine g_icmp_ne (tgt := 88) hf C dX5_mustOf_81 (by decide) (fun hf => ?_) (fun hf => ?_)
              · refine g_iconst C dX5_mustOf_88 ic_0 ?_
                refine g_lv [0, 1, 2, 3, 5] rfl ?_
                exact hj7 (0 : Int32) hf
              · refine g_iconst C dX5_mustOf_84 ic_1 ?_
                refine g_goto (tgt := 89) C dX5_mustOf_85 (by decide) ?_
                refine g_lv [0, 1, 2, 3, 5] rfl ?_
                exact hj7 (1 : Int32) hf
        · refine g_icmp_ne (tgt := 61) hf C dX5_mustOf_34 (by decide) (fun hf => ?_) (fun hf => ?_)
          · refine g_iconst C dX5_mustOf_61 ic_0 ?_
            exact hj3 (0 : Int32) hf
          · refine g_aload_n C 0 dX5_mustOf_37 rfl rfl ?_
            refine g_iload C 4 dX5_mustOf_38 rfl ?_
            obtain ⟨r19, hc18, hf⟩ := g_bind hf
            refine g_callVi C (mX5_kind l0 D0 K0 h σ r2 hc18) gX5_mustOf_X5_kind rfl rfl rfl ddX5_kind ⟨(Nat.le_of_ble_eq_true rfl), (Nat.le_of_ble_eq_true rfl)⟩ rfl (Nat.le_of_ble_eq_true rfl) rfl rfl rfl (Nat.le_of_ble_eq_true rfl) dX5_mustOf_40 ?_
            refine g_iconst C dX5_mustOf_43 ic_2 ?_
            refine g_icmp_eq (tgt := 61) hf C dX5_mustOf_44 (by decide) (fun hf => ?_) (fun hf => ?_)
            · refine g_iconst C dX5_mustOf_61 ic_0 ?_
              exact hj3 (0 : Int32) hf
            · refine g_aload_n C 0 dX5_mustOf_47 rfl rfl ?_
              refine g_iload C 4 dX5_mustOf_48 rfl ?_
              obtain ⟨r21, hc20, hf⟩ := g_bind hf
              refine g_callVi C (mX5_kind l0 D0 K0 h σ r2 hc20) gX5_mustOf_X5_kind rfl rfl rfl ddX5_kind ⟨(Nat.le_of_ble_eq_true rfl), (Nat.le_of_ble_eq_true rfl)⟩ rfl (Nat.le_of_ble_eq_true rfl) rfl rfl rfl (Nat.le_of_ble_eq_true rfl) dX5_mustOf_50 ?_
              refine g_iconst C dX5_mustOf_53 ic_4 ?_
              refine g_icmp_eq (tgt := 61) hf C dX5_mustOf_54 (by decide) (fun hf => ?_) (fun hf => ?_)
              · refine g_iconst C dX5_mustOf_61 ic_0 ?_
                exact hj3 (0 : Int32) hf
              · refine g_iconst C dX5_mustOf_57 ic_1 ?_
                refine g_goto (tgt := 62) C dX5_mustOf_58 (by decide) ?_
                exact hj3 (1 : Int32) hf
set_option maxHeartbeats 4000000 in
set_option maxRecDepth 100000 in
theorem mX5_mustOf (l0 : Launch) (D0 : va_G) (K0 : Nat → ClassId) (h : Nat → Nat) (σ : pS) (a1 : Int32) {r : Int32} (hf : fX5_mustOf σ a1 = some r) : Met l0 yX5_mustOf wsX5_mustOf ({ frames := 1, cells := 0, slots := 0, locals := 22 } : Room) (va_Pc [.ref (h 0), .int a1] (pIn wM D0 K0 h σ)) (va_Qi (fun r' u' => r' = r ∧ u' = σ) (pOut wM D0 K0 h) (pA wM h)) 0 0 (pA wM h) := by
  refine p_metI (lv := [(0, .ref (h 0)), (1, .int a1)]) (by decide +kernel) rfl rfl (Nat.le_of_ble_eq_true rfl) rfl (fun X C hret => ?_)
  unfold fX5_mustOf at hf
  refine g_iconst C dX5_mustOf_0 ic_0 ?_
  refine g_istore_n C [1, 2, 0] dX5_mustOf_1 rfl (Nat.le_of_ble_eq_true rfl) rfl ?_
  refine g_iconst C dX5_mustOf_2 ic_0 ?_
  refine g_istore_n C [1, 2, 3, 0] dX5_mustOf_3 rfl (Nat.le_of_ble_eq_true rfl) rfl ?_
  refine lX5_mustOf_4_ok σ a1 C hret (fun y22 hf => ?_) FU (0 : Int32) (0 : Int32) hf
  refine g_iload_n C 0 dX5_mustOf_152 rfl rfl ?_
  exact g_reti hf hret dX5_mustOf_153
/-! X5_must -/
theorem ddX5_must : yX5_must.cls = RX5 ∧ yX5_must.cls ≠ "java/lang/invoke/MethodHandle" ∧ yX5_must.cls ≠ "java/lang/invoke/VarHandle" ∧ (parseMethodDescriptor yX5_must.desc).map (fun d => d.parameters.length) = some 2 := by decide +kernel
set_option maxHeartbeats 4000000 in
set_option maxRecDepth 100000 in
theorem mX5_must (l0 : Launch) (D0 : va_G) (K0 : Nat → ClassId) (h : Nat → Nat) (σ : pS) (a1 : Int32) (a2 : Int32) {r : Int32} {u : pS} (hf : fX5_must σ a1 a2 = some (r, u)) : Met l0 yX5_must wsX5_must ({ frames := 3, cells := 0, slots := 0, locals := 65 } : Room) (va_Pc [.ref (h 0), .int a1, .int a2] (pIn wM D0 K0 h σ)) (va_Qi (fun r' u' => r' = r ∧ u' = u) (pOut wM D0 K0 h) (pA wM h)) 0 0 (pA wM h) := by
  refine p_metI (lv := [(0, .ref (h 0)), (1, .int a1), (2, .int a2)]) (by decide +kernel) rfl rfl (Nat.le_of_ble_eq_true rfl) rfl (fun X C hret => ?_)
  unfold fX5_must at hf
  refine g_iload_n C 1 dX5_must_0 rfl rfl ?_
  obtain ⟨r2, hc1, hf⟩ := g_bind hf
  refine g_callSi C (mX5_isRow l0 D0 K0 h σ a1 hc1) gX5_must_X5_isRow rfl rfl rfl ddX5_isRow ⟨(Nat.le_of_ble_eq_true rfl), (Nat.le_of_ble_eq_true rfl)⟩ rfl rfl (Nat.le_of_ble_eq_true rfl) dX5_must_1 ?_
  refine g_if_eq (tgt := 15) hf C dX5_must_4 (by decide) (fun hf => ?_) (fun hf => ?_)
  · refine g_iconst C dX5_must_15 ic_m1 ?_
    exact g_retiW hf hret dX5_must_16
  · refine g_aload_n C 0 dX5_must_7 rfl rfl ?_
    refine g_iload_n C 2 dX5_must_8 rfl rfl ?_
    obtain ⟨r4, hc3, hf⟩ := g_bind hf
    refine g_callVi C (mX5_isOne l0 D0 K0 h σ a2 hc3) gX5_must_X5_isOne rfl rfl rfl ddX5_isOne ⟨(Nat.le_of_ble_eq_true rfl), (Nat.le_of_ble_eq_true rfl)⟩ rfl (Nat.le_of_ble_eq_true rfl) rfl rfl rfl (Nat.le_of_ble_eq_true rfl) dX5_must_9 ?_
    refine g_if_ne (tgt := 17) hf C dX5_must_12 (by decide) (fun hf => ?_) (fun hf => ?_)
    · refine g_aload_n C 0 dX5_must_17 rfl rfl ?_
      refine g_iload_n C 1 dX5_must_18 rfl rfl ?_
      obtain ⟨r6, σ7, hc5, hf⟩ := g_pbind hf
      refine g_callVi C (mX5_needRound l0 D0 K0 h σ a1 hc5) gX5_must_X5_needRound rfl rfl rfl ddX5_needRound ⟨(Nat.le_of_ble_eq_true rfl), (Nat.le_of_ble_eq_true rfl)⟩ rfl (Nat.le_of_ble_eq_true rfl) rfl rfl rfl (Nat.le_of_ble_eq_true rfl) dX5_must_19 ?_
      refine g_istore_n C [1, 3, 0] dX5_must_22 rfl (Nat.le_of_ble_eq_true rfl) rfl ?_
      refine g_iload_n C 2 dX5_must_23 rfl rfl ?_
      refine g_if_ge (tgt := 31) hf C dX5_must_24 (by decide) (fun hf => ?_) (fun hf => ?_)
      · refine g_aload_n C 0 dX5_must_31 rfl rfl ?_
        refine g_iload_n C 1 dX5_must_32 rfl rfl ?_
        obtain ⟨r9, hc8, hf⟩ := g_bind hf
        refine g_callVi C (mX5_mustOf l0 D0 K0 h σ7 a2 hc8) gX5_must_X5_mustOf rfl rfl rfl ddX5_mustOf ⟨(Nat.le_of_ble_eq_true rfl), (Nat.le_of_ble_eq_true rfl)⟩ rfl (Nat.le_of_ble_eq_true rfl) rfl rfl rfl (Nat.le_of_ble_eq_true rfl) dX5_must_33 ?_
        exact g_retiW hf hret dX5_must_36
      · refine g_iload_n C 2 dX5_must_27 rfl rfl ?_
        refine g_goto (tgt := 36) C dX5_must_28 (by decide) ?_
        exact g_retiW hf hret dX5_must_36
    · refine g_iconst C dX5_must_15 ic_m1 ?_
      exact g_retiW hf hret dX5_must_16
/-! X5_liars -/
theorem in_X5_liars_X5 : ∀ q ∈ u_ws RX5 TX5 30, q ∈ wsX5_liars := by decide +kernel
theorem lk_X5_liars_0 : Cond.fieldLink RX5 140 "EmptyHouseModel" "n" "I" ∈ wsX5_liars := by decide +kernel
theorem lk_X5_liars_1 : Cond.fieldLink RX5 29 "EmptyHouseModel" "people" "[I" ∈ wsX5_liars := by decide +kernel
theorem ddX5_liars : yX5_liars.cls = RX5 ∧ yX5_liars.cls ≠ "java/lang/invoke/MethodHandle" ∧ yX5_liars.cls ≠ "java/lang/invoke/VarHandle" ∧ (parseMethodDescriptor yX5_liars.desc).map (fun d => d.parameters.length) = some 1 := by decide +kernel
set_option maxHeartbeats 4000000 in
set_option maxRecDepth 100000 in
theorem lX5_liars_29_ok {h : Nat → Nat} {X : Cx} {l0 : Launch} {D0 : va_G} {K0 : Nat → ClassId} (σ : pS) {k92 : Int32 → Int32 → Option (Int32 × pS)} {r : Int32} {u : pS} (C : Cok wM h X l0 ({ frames := 3, cells := 0, slots := 0, locals := 65 } : Room) D0 K0 cX5_liars 7 RX5 wsX5_liars) (hret : ∀ (pc : Nat) (lv' : List (Nat × Value)), decode cX5_liars pc = .ok (.ireturn, 1) → G wM h X pc lv' [.int r] u) (hk92 : ∀ (z3 : Int32) (z4 : Int32), k92 z3 z4 = some (r, u) → G wM h X 92 [(0, .ref (h 0)), (3, .int z3), (4, .int z4)] [] σ) : ∀ (F : Nat) (v3 : Int32) (v4 : Int32) (v5 : Int32), lX5_liars_29 σ k92 F v3 v4 v5 = some (r, u) → G wM h X 29 [(0, .ref (h 0)), (3, .int v3), (4, .int v4), (5, .int v5)] [] σ := by
  intro F
  induction F with
  | zero => intro v3 v4 v5 hf; exact absurd hf (by simp [lX5_liars_29])
  | succ F ih =>
    intro v3 v4 v5 hf
    rw [lX5_liars_29.eq_2] at hf
    refine g_iload C 3 dX5_liars_29 rfl ?_
    refine g_aload_n C 0 dX5_liars_31 rfl rfl ?_
    refine g_getI C in_X5_liars_X5 (k := 10) lk_X5_liars_0 rfl (Nat.le_of_ble_eq_true rfl) rfl (Nat.le_of_ble_eq_true rfl) rfl dX5_liars_32 ?_
    refine g_icmp_ge (tgt := 92) hf C dX5_liars_35 (by decide) (fun hf => ?_) (fun hf => ?_)
    · refine g_lv [0, 1, 2] rfl ?_
      exact hk92 v3 v4 hf
    · refine g_aload_n C 0 dX5_liars_38 rfl rfl ?_
      refine g_iload C 3 dX5_liars_39 rfl ?_
      obtain ⟨r7, hc6, hf⟩ := g_bind hf
      refine g_callVi C (mX5_mustOf l0 D0 K0 h σ v5 hc6) gX5_liars_X5_mustOf rfl rfl rfl ddX5_mustOf ⟨(Nat.le_of_ble_eq_true rfl), (Nat.le_of_ble_eq_true rfl)⟩ rfl (Nat.le_of_ble_eq_true rfl) rfl rfl rfl (Nat.le_of_ble_eq_true rfl) dX5_liars_41 ?_
      refine g_aload_n C 0 dX5_liars_44 rfl rfl ?_
      refine g_getC (n := 7) C in_X5_liars_X5 (k := 11) lk_X5_liars_1 rfl (Nat.le_of_ble_eq_true rfl) rfl (Nat.le_of_ble_eq_true rfl) rfl dX5_liars_45 ?_
      refine g_iconst C dX5_liars_48 ic_4 ?_
      refine g_iload C 3 dX5_liars_49 rfl ?_
      refine g_imul C dX5_liars_51 ?_
      refine g_iconst C dX5_liars_52 ic_2 ?_
      refine g_iadd C dX5_liars_53 ?_
      refine g_iald hf C rfl (Nat.le_of_ble_eq_true rfl) dX5_liars_54 (fun hf => ?_)
      refine g_iconst C dX5_liars_55 ic_m1 ?_
      refine g_ixor C dX5_liars_56 ?_
      refine g_iand C dX5_liars_57 ?_
      refine g_leti hf (fun x8 hf => ?_)
      refine g_istore C [1, 2, 3, 4, 0] dX5_liars_58 (Nat.le_of_ble_eq_true rfl) rfl ?_
      refine g_iload_n C 1 dX5_liars_60 rfl rfl ?_
      refine g_iload C 4 dX5_liars_61 rfl ?_
      refine g_join (P := fun j => ∀ (y10 : Int32), j y10 = some (r, u) → G wM h X 74 [(0, .ref (h 0)), (4, .int v4), (5, .int v5), (6, .int x8)] [.int y10, .int v3] σ) hf (fun y10 hf => ?_) (fun j9 hj9 hf => ?_)
      · refine g_ior C dX5_liars_74 ?_
        refine g_leti hf (fun x11 hf => ?_)
        refine g_istore_n C [1, 0, 2, 3, 4] dX5_liars_75 rfl (Nat.le_of_ble_eq_true rfl) rfl ?_
        refine g_iload C 2 dX5_liars_76 rfl ?_
        refine g_iload C 4 dX5_liars_78 rfl ?_
        obtain ⟨r13, hc12, hf⟩ := g_bind hf
        refine g_callSi C (mX5_bits l0 D0 K0 h σ x8 hc12) gX5_liars_X5_bits rfl rfl rfl ddX5_bits ⟨(Nat.le_of_ble_eq_true rfl), (Nat.le_of_ble_eq_true rfl)⟩ rfl rfl (Nat.le_of_ble_eq_true rfl) dX5_liars_80 ?_
        refine g_iadd C dX5_liars_83 ?_
        refine g_leti hf (fun x14 hf => ?_)
        refine g_istore C [1, 2, 0, 3] dX5_liars_84 (Nat.le_of_ble_eq_true rfl) rfl ?_
        refine g_iinc C 3 [1, 2, 3, 0] dX5_liars_86 rfl ic_1 (Nat.le_of_ble_eq_true rfl) rfl ?_
        refine g_goto (tgt := 29) C dX5_liars_89 (by decide) ?_
        exact ih x11 x14 (v5 + (1 : Int32)) hf
      · refine g_if_eq (tgt := 73) hf C dX5_liars_63 (by decide) (fun hf => ?_) (fun hf => ?_)
        · refine g_iconst C dX5_liars_73 ic_0 ?_
          refine g_lv [0, 2, 3, 4] rfl ?_
          exact hj9 (0 : Int32) hf
        · refine g_iconst C dX5_liars_66 ic_1 ?_
          refine g_iload C 3 dX5_liars_67 rfl ?_
          refine g_ishl C dX5_liars_69 ?_
          refine g_goto (tgt := 74) C dX5_liars_70 (by decide) ?_
          refine g_lv [0, 2, 3, 4] rfl ?_
          exact hj9 ((1 : Int32) <<< (v5 &&& 31)) hf
set_option maxHeartbeats 4000000 in
set_option maxRecDepth 100000 in
theorem mX5_liars (l0 : Launch) (D0 : va_G) (K0 : Nat → ClassId) (h : Nat → Nat) (σ : pS) (a1 : Int32) {r : Int32} {u : pS} (hf : fX5_liars σ a1 = some (r, u)) : Met l0 yX5_liars wsX5_liars ({ frames := 3, cells := 0, slots := 0, locals := 65 } : Room) (va_Pc [.ref (h 0), .int a1] (pIn wM D0 K0 h σ)) (va_Qi (fun r' u' => r' = r ∧ u' = u) (pOut wM D0 K0 h) (pA wM h)) 0 0 (pA wM h) := by
  refine p_metI (lv := [(0, .ref (h 0)), (1, .int a1)]) (by decide +kernel) rfl rfl (Nat.le_of_ble_eq_true rfl) rfl (fun X C hret => ?_)
  unfold fX5_liars at hf
  refine g_iload_n C 1 dX5_liars_0 rfl rfl ?_
  obtain ⟨r2, hc1, hf⟩ := g_bind hf
  refine g_callSi C (mX5_isRow l0 D0 K0 h σ a1 hc1) gX5_liars_X5_isRow rfl rfl rfl ddX5_isRow ⟨(Nat.le_of_ble_eq_true rfl), (Nat.le_of_ble_eq_true rfl)⟩ rfl rfl (Nat.le_of_ble_eq_true rfl) dX5_liars_1 ?_
  refine g_if_ne (tgt := 9) hf C dX5_liars_4 (by decide) (fun hf => ?_) (fun hf => ?_)
  · refine g_aload_n C 0 dX5_liars_9 rfl rfl ?_
    refine g_iload_n C 1 dX5_liars_10 rfl rfl ?_
    obtain ⟨r4, σ5, hc3, hf⟩ := g_pbind hf
    refine g_callVi C (mX5_needRound l0 D0 K0 h σ a1 hc3) gX5_liars_X5_needRound rfl rfl rfl ddX5_needRound ⟨(Nat.le_of_ble_eq_true rfl), (Nat.le_of_ble_eq_true rfl)⟩ rfl (Nat.le_of_ble_eq_true rfl) rfl rfl rfl (Nat.le_of_ble_eq_true rfl) dX5_liars_11 ?_
    refine g_istore_n C [1, 0] dX5_liars_14 rfl (Nat.le_of_ble_eq_true rfl) rfl ?_
    refine g_iload_n C 1 dX5_liars_15 rfl rfl ?_
    refine g_if_ge (tgt := 21) hf C dX5_liars_16 (by decide) (fun hf => ?_) (fun hf => ?_)
    · refine g_iconst C dX5_liars_21 ic_0 ?_
      refine g_istore_n C [1, 0] dX5_liars_22 rfl (Nat.le_of_ble_eq_true rfl) rfl ?_
      refine g_iconst C dX5_liars_23 ic_0 ?_
      refine g_istore C [1, 2, 0] dX5_liars_24 (Nat.le_of_ble_eq_true rfl) rfl ?_
      refine g_iconst C dX5_liars_26 ic_0 ?_
      refine g_istore C [1, 2, 3, 0] dX5_liars_27 (Nat.le_of_ble_eq_true rfl) rfl ?_
      refine lX5_liars_29_ok σ5 C hret (fun y15 y16 hf => ?_) FU (0 : Int32) (0 : Int32) (0 : Int32) hf
      refine g_aload_n C 0 dX5_liars_92 rfl rfl ?_
      refine g_iload C 2 dX5_liars_93 rfl ?_
      refine g_iload_n C 1 dX5_liars_95 rfl rfl ?_
      obtain ⟨r18, σ19, hc17, hf⟩ := g_pbind hf
      refine g_callVi C (mX5_tells l0 D0 K0 h σ5 y16 y15 hc17) gX5_liars_X5_tells rfl rfl rfl ddX5_tells ⟨(Nat.le_of_ble_eq_true rfl), (Nat.le_of_ble_eq_true rfl)⟩ rfl (Nat.le_of_ble_eq_true rfl) rfl rfl rfl (Nat.le_of_ble_eq_true rfl) dX5_liars_96 ?_
      exact g_retiW hf hret dX5_liars_99
    · refine g_iload_n C 1 dX5_liars_19 rfl rfl ?_
      exact g_retiW hf hret dX5_liars_20
  · refine g_iconst C dX5_liars_7 ic_m1 ?_
    exact g_retiW hf hret dX5_liars_8
/-! X5_counted -/
theorem in_X5_counted_X5 : ∀ q ∈ u_ws RX5 TX5 30, q ∈ wsX5_counted := by decide +kernel
theorem lk_X5_counted_0 : Cond.fieldLink RX5 140 "EmptyHouseModel" "n" "I" ∈ wsX5_counted := by decide +kernel
theorem lk_X5_counted_1 : Cond.fieldLink RX5 58 "EmptyHouseModel" "isKept" "[Z" ∈ wsX5_counted := by decide +kernel
theorem lk_X5_counted_2 : Cond.fieldLink RX5 13 "EmptyHouseModel" "sizes" "[I" ∈ wsX5_counted := by decide +kernel
theorem lk_X5_counted_3 : Cond.fieldLink RX5 22 "EmptyHouseModel" "textSizes" "[I" ∈ wsX5_counted := by decide +kernel
theorem lk_X5_counted_4 : Cond.fieldLink RX5 143 "EmptyHouseModel" "debtMany" "I" ∈ wsX5_counted := by decide +kernel
theorem ddX5_counted : yX5_counted.cls = RX5 ∧ yX5_counted.cls ≠ "java/lang/invoke/MethodHandle" ∧ yX5_counted.cls ≠ "java/lang/invoke/VarHandle" ∧ (parseMethodDescriptor yX5_counted.desc).map (fun d => d.parameters.length) = some 1 := by decide +kernel
set_option maxHeartbeats 4000000 in
set_option maxRecDepth 100000 in
theorem lX5_counted_4_ok {h : Nat → Nat} {X : Cx} {l0 : Launch} {D0 : va_G} {K0 : Nat → ClassId} (σ : pS) (p1 : Int32) {k62 : Int32 → Option Int32} {r : Int32} (C : Cok wM h X l0 ({ frames := 2, cells := 0, slots := 0, locals := 44 } : Room) D0 K0 cX5_counted 4 RX5 wsX5_counted) (hret : ∀ (pc : Nat) (lv' : List (Nat × Value)), decode cX5_counted pc = .ok (.ireturn, 1) → G wM h X pc lv' [.int r] σ) (hk62 : ∀ (z2 : Int32), k62 z2 = some r → G wM h X 62 [(0, .ref (h 0)), (1, .int p1), (2, .int z2)] [] σ) : ∀ (F : Nat) (v2 : Int32) (v3 : Int32), lX5_counted_4 σ p1 k62 F v2 v3 = some r → G wM h X 4 [(0, .ref (h 0)), (1, .int p1), (2, .int v2), (3, .int v3)] [] σ := by
  intro F
  induction F with
  | zero => intro v2 v3 hf; exact absurd hf (by simp [lX5_counted_4])
  | succ F ih =>
    intro v2 v3 hf
    rw [lX5_counted_4.eq_2] at hf
    refine g_iload_n C 3 dX5_counted_4 rfl rfl ?_
    refine g_aload_n C 0 dX5_counted_5 rfl rfl ?_
    refine g_getI C in_X5_counted_X5 (k := 10) lk_X5_counted_0 rfl (Nat.le_of_ble_eq_true rfl) rfl (Nat.le_of_ble_eq_true rfl) rfl dX5_counted_6 ?_
    refine g_icmp_ge (tgt := 62) hf C dX5_counted_9 (by decide) (fun hf => ?_) (fun hf => ?_)
    · refine g_lv [0, 1, 2] rfl ?_
      exact hk62 v2 hf
    · refine g_iload_n C 2 dX5_counted_12 rfl rfl ?_
      refine g_iload_n C 1 dX5_counted_13 rfl rfl ?_
      refine g_iconst C dX5_counted_14 ic_3 ?_
      refine g_join (P := fun j => ∀ (y2 : Int32), j y2 = some r → G wM h X 54 [(0, .ref (h 0)), (1, .int p1), (3, .int v3)] [.int y2, .int v2] σ) hf (fun y2 hf => ?_) (fun j1 hj1 hf => ?_)
      · refine g_iadd C dX5_counted_54 ?_
        refine g_leti hf (fun x3 hf => ?_)
        refine g_istore_n C [1, 2, 0, 3] dX5_counted_55 rfl (Nat.le_of_ble_eq_true rfl) rfl ?_
        refine g_iinc C 3 [1, 2, 3, 0] dX5_counted_56 rfl ic_1 (Nat.le_of_ble_eq_true rfl) rfl ?_
        refine g_goto (tgt := 4) C dX5_counted_59 (by decide) ?_
        exact ih x3 (v3 + (1 : Int32)) hf
      · refine g_join (P := fun j => j = some r → G wM h X 36 [(0, .ref (h 0)), (1, .int p1), (3, .int v3)] [.int v2] σ) hf (fun hf => ?_) (fun j4 hj4 hf => ?_)
        · refine g_iload_n C 1 dX5_counted_36 rfl rfl ?_
          refine g_iconst C dX5_counted_37 ic_4 ?_
          refine g_icmp_ne (tgt := 53) hf C dX5_counted_38 (by decide) (fun hf => ?_) (fun hf => ?_)
          · refine g_iconst C dX5_counted_53 ic_0 ?_
            exact hj1 (0 : Int32) hf
          · refine g_aload_n C 0 dX5_counted_41 rfl rfl ?_
            refine g_iload_n C 2 dX5_counted_42 rfl rfl ?_
            obtain ⟨r6, hc5, hf⟩ := g_bind hf
            refine g_callVi C (mX5_isShared l0 D0 K0 h σ v3 hc5) gX5_counted_X5_isShared rfl rfl rfl ddX5_isShared ⟨(Nat.le_of_ble_eq_true rfl), (Nat.le_of_ble_eq_true rfl)⟩ rfl (Nat.le_of_ble_eq_true rfl) rfl rfl rfl (Nat.le_of_ble_eq_true rfl) dX5_counted_43 ?_
            refine g_if_eq (tgt := 53) hf C dX5_counted_46 (by decide) (fun hf => ?_) (fun hf => ?_)
            · refine g_iconst C dX5_counted_53 ic_0 ?_
              exact hj1 (0 : Int32) hf
            · refine g_iconst C dX5_counted_49 ic_1 ?_
              refine g_goto (tgt := 54) C dX5_counted_50 (by decide) ?_
              exact hj1 (1 : Int32) hf
        · refine g_icmp_ne (tgt := 36) hf C dX5_counted_15 (by decide) (fun hf => ?_) (fun hf => ?_)
          · refine g_lv [0, 1, 3] rfl ?_
            exact hj4 hf
          · refine g_aload_n C 0 dX5_counted_18 rfl rfl ?_
            refine g_iload_n C 3 dX5_counted_19 rfl rfl ?_
            obtain ⟨r8, hc7, hf⟩ := g_bind hf
            refine g_callVi C (mX5_kind l0 D0 K0 h σ v3 hc7) gX5_counted_X5_kind rfl rfl rfl ddX5_kind ⟨(Nat.le_of_ble_eq_true rfl), (Nat.le_of_ble_eq_true rfl)⟩ rfl (Nat.le_of_ble_eq_true rfl) rfl rfl rfl (Nat.le_of_ble_eq_true rfl) dX5_counted_20 ?_
            refine g_iconst C dX5_counted_23 ic_1 ?_
            refine g_icmp_eq (tgt := 49) hf C dX5_counted_24 (by decide) (fun hf => ?_) (fun hf => ?_)
            · refine g_iconst C dX5_counted_49 ic_1 ?_
              refine g_goto (tgt := 54) C dX5_counted_50 (by decide) ?_
              refine g_lv [0, 1, 3] rfl ?_
              exact hj1 (1 : Int32) hf
            · refine g_aload_n C 0 dX5_counted_27 rfl rfl ?_
              refine g_iload_n C 3 dX5_counted_28 rfl rfl ?_
              obtain ⟨r10, hc9, hf⟩ := g_bind hf
              refine g_callVi C (mX5_kind l0 D0 K0 h σ v3 hc9) gX5_counted_X5_kind rfl rfl rfl ddX5_kind ⟨(Nat.le_of_ble_eq_true rfl), (Nat.le_of_ble_eq_true rfl)⟩ rfl (Nat.le_of_ble_eq_true rfl) rfl rfl rfl (Nat.le_of_ble_eq_true rfl) dX5_counted_29 ?_
              refine g_iconst C dX5_counted_32 ic_5 ?_
              refine g_icmp_eq (tgt := 49) hf C dX5_counted_33 (by decide) (fun hf => ?_) (fun hf => ?_)
              · refine g_iconst C dX5_counted_49 ic_1 ?_
                refine g_goto (tgt := 54) C dX5_counted_50 (by decide) ?_
                refine g_lv [0, 1, 3] rfl ?_
                exact hj1 (1 : Int32) hf
              · refine g_lv [0, 1, 3] rfl ?_
                exact hj4 hf
set_option maxHeartbeats 4000000 in
set_option maxRecDepth 100000 in
theorem lX5_counted_64_ok {h : Nat → Nat} {X : Cx} {l0 : Launch} {D0 : va_G} {K0 : Nat → ClassId} (σ : pS) (p1 : Int32) {k97 : Int32 → Option Int32} {r : Int32} (C : Cok wM h X l0 ({ frames := 2, cells := 0, slots := 0, locals := 44 } : Room) D0 K0 cX5_counted 4 RX5 wsX5_counted) (hret : ∀ (pc : Nat) (lv' : List (Nat × Value)), decode cX5_counted pc = .ok (.ireturn, 1) → G wM h X pc lv' [.int r] σ) (hk97 : ∀ (z2 : Int32), k97 z2 = some r → G wM h X 97 [(0, .ref (h 0)), (1, .int p1), (2, .int z2)] [] σ) : ∀ (F : Nat) (v2 : Int32) (v3 : Int32), lX5_counted_64 σ p1 k97 F v2 v3 = some r → G wM h X 64 [(0, .ref (h 0)), (1, .int p1), (2, .int v2), (3, .int v3)] [] σ := by
  intro F
  induction F with
  | zero => intro v2 v3 hf; exact absurd hf (by simp [lX5_counted_64])
  | succ F ih =>
    intro v2 v3 hf
    rw [lX5_counted_64.eq_2] at hf
    refine g_iload_n C 3 dX5_counted_64 rfl rfl ?_
    refine g_iconst C dX5_counted_65 ic_3 ?_
    refine g_icmp_ge (tgt := 97) hf C dX5_counted_66 (by decide) (fun hf => ?_) (fun hf => ?_)
    · refine g_lv [0, 1, 2] rfl ?_
      exact hk97 v2 hf
    · refine g_iload_n C 2 dX5_counted_69 rfl rfl ?_
      refine g_iload_n C 1 dX5_counted_70 rfl rfl ?_
      refine g_iconst C dX5_counted_71 ic_5 ?_
      refine g_join (P := fun j => ∀ (y13 : Int32), j y13 = some r → G wM h X 89 [(0, .ref (h 0)), (1, .int p1), (3, .int v3)] [.int y13, .int v2] σ) hf (fun y13 hf => ?_) (fun j12 hj12 hf => ?_)
      · refine g_iadd C dX5_counted_89 ?_
        refine g_leti hf (fun x14 hf => ?_)
        refine g_istore_n C [1, 2, 0, 3] dX5_counted_90 rfl (Nat.le_of_ble_eq_true rfl) rfl ?_
        refine g_iinc C 3 [1, 2, 3, 0] dX5_counted_91 rfl ic_1 (Nat.le_of_ble_eq_true rfl) rfl ?_
        refine g_goto (tgt := 64) C dX5_counted_94 (by decide) ?_
        exact ih x14 (v3 + (1 : Int32)) hf
      · refine g_icmp_ne (tgt := 88) hf C dX5_counted_72 (by decide) (fun hf => ?_) (fun hf => ?_)
        · refine g_iconst C dX5_counted_88 ic_0 ?_
          refine g_lv [0, 1, 3] rfl ?_
          exact hj12 (0 : Int32) hf
        · refine g_aload_n C 0 dX5_counted_75 rfl rfl ?_
          refine g_getC (n := 16) C in_X5_counted_X5 (k := 27) lk_X5_counted_1 rfl (Nat.le_of_ble_eq_true rfl) rfl (Nat.le_of_ble_eq_true rfl) rfl dX5_counted_76 ?_
          refine g_iload_n C 3 dX5_counted_79 rfl rfl ?_
          refine g_zald hf C rfl (Nat.le_of_ble_eq_true rfl) dX5_counted_80 (fun hf => ?_)
          refine g_if_eq (tgt := 88) hf C dX5_counted_81 (by decide) (fun hf => ?_) (fun hf => ?_)
          · refine g_iconst C dX5_counted_88 ic_0 ?_
            refine g_lv [0, 1, 3] rfl ?_
            exact hj12 (0 : Int32) hf
          · refine g_iconst C dX5_counted_84 ic_1 ?_
            refine g_goto (tgt := 89) C dX5_counted_85 (by decide) ?_
            refine g_lv [0, 1, 3] rfl ?_
            exact hj12 (1 : Int32) hf
set_option maxHeartbeats 4000000 in
set_option maxRecDepth 100000 in
theorem lX5_counted_99_ok {h : Nat → Nat} {X : Cx} {l0 : Launch} {D0 : va_G} {K0 : Nat → ClassId} (σ : pS) (p1 : Int32) {k134 : Int32 → Option Int32} {r : Int32} (C : Cok wM h X l0 ({ frames := 2, cells := 0, slots := 0, locals := 44 } : Room) D0 K0 cX5_counted 4 RX5 wsX5_counted) (hret : ∀ (pc : Nat) (lv' : List (Nat × Value)), decode cX5_counted pc = .ok (.ireturn, 1) → G wM h X pc lv' [.int r] σ) (hk134 : ∀ (z2 : Int32), k134 z2 = some r → G wM h X 134 [(0, .ref (h 0)), (1, .int p1), (2, .int z2)] [] σ) : ∀ (F : Nat) (v2 : Int32) (v3 : Int32), lX5_counted_99 σ p1 k134 F v2 v3 = some r → G wM h X 99 [(0, .ref (h 0)), (1, .int p1), (2, .int v2), (3, .int v3)] [] σ := by
  intro F
  induction F with
  | zero => intro v2 v3 hf; exact absurd hf (by simp [lX5_counted_99])
  | succ F ih =>
    intro v2 v3 hf
    rw [lX5_counted_99.eq_2] at hf
    refine g_iload_n C 3 dX5_counted_99 rfl rfl ?_
    refine g_bipush C dX5_counted_100 bp_6 ?_
    refine g_icmp_ge (tgt := 134) hf C dX5_counted_102 (by decide) (fun hf => ?_) (fun hf => ?_)
    · refine g_lv [0, 1, 2] rfl ?_
      exact hk134 v2 hf
    · refine g_iload_n C 2 dX5_counted_105 rfl rfl ?_
      refine g_iload_n C 1 dX5_counted_106 rfl rfl ?_
      refine g_bipush C dX5_counted_107 bp_6 ?_
      refine g_join (P := fun j => ∀ (y17 : Int32), j y17 = some r → G wM h X 126 [(0, .ref (h 0)), (1, .int p1), (3, .int v3)] [.int y17, .int v2] σ) hf (fun y17 hf => ?_) (fun j16 hj16 hf => ?_)
      · refine g_iadd C dX5_counted_126 ?_
        refine g_leti hf (fun x18 hf => ?_)
        refine g_istore_n C [1, 2, 0, 3] dX5_counted_127 rfl (Nat.le_of_ble_eq_true rfl) rfl ?_
        refine g_iinc C 3 [1, 2, 3, 0] dX5_counted_128 rfl ic_1 (Nat.le_of_ble_eq_true rfl) rfl ?_
        refine g_goto (tgt := 99) C dX5_counted_131 (by decide) ?_
        exact ih x18 (v3 + (1 : Int32)) hf
      · refine g_icmp_ne (tgt := 125) hf C dX5_counted_109 (by decide) (fun hf => ?_) (fun hf => ?_)
        · refine g_iconst C dX5_counted_125 ic_0 ?_
          refine g_lv [0, 1, 3] rfl ?_
          exact hj16 (0 : Int32) hf
        · refine g_aload_n C 0 dX5_counted_112 rfl rfl ?_
          refine g_getC (n := 2) C in_X5_counted_X5 (k := 5) lk_X5_counted_2 rfl (Nat.le_of_ble_eq_true rfl) rfl (Nat.le_of_ble_eq_true rfl) rfl dX5_counted_113 ?_
          refine g_iload_n C 3 dX5_counted_116 rfl rfl ?_
          refine g_iald hf C rfl (Nat.le_of_ble_eq_true rfl) dX5_counted_117 (fun hf => ?_)
          refine g_if_lt (tgt := 125) hf C dX5_counted_118 (by decide) (fun hf => ?_) (fun hf => ?_)
          · refine g_iconst C dX5_counted_125 ic_0 ?_
            refine g_lv [0, 1, 3] rfl ?_
            exact hj16 (0 : Int32) hf
          · refine g_iconst C dX5_counted_121 ic_1 ?_
            refine g_goto (tgt := 126) C dX5_counted_122 (by decide) ?_
            refine g_lv [0, 1, 3] rfl ?_
            exact hj16 (1 : Int32) hf
set_option maxHeartbeats 4000000 in
set_option maxRecDepth 100000 in
theorem lX5_counted_136_ok {h : Nat → Nat} {X : Cx} {l0 : Launch} {D0 : va_G} {K0 : Nat → ClassId} (σ : pS) (p1 : Int32) {k170 : Int32 → Option Int32} {r : Int32} (C : Cok wM h X l0 ({ frames := 2, cells := 0, slots := 0, locals := 44 } : Room) D0 K0 cX5_counted 4 RX5 wsX5_counted) (hret : ∀ (pc : Nat) (lv' : List (Nat × Value)), decode cX5_counted pc = .ok (.ireturn, 1) → G wM h X pc lv' [.int r] σ) (hk170 : ∀ (z2 : Int32), k170 z2 = some r → G wM h X 170 [(0, .ref (h 0)), (1, .int p1), (2, .int z2)] [] σ) : ∀ (F : Nat) (v2 : Int32) (v3 : Int32), lX5_counted_136 σ p1 k170 F v2 v3 = some r → G wM h X 136 [(0, .ref (h 0)), (1, .int p1), (2, .int v2), (3, .int v3)] [] σ := by
  intro F
  induction F with
  | zero => intro v2 v3 hf; exact absurd hf (by simp [lX5_counted_136])
  | succ F ih =>
    intro v2 v3 hf
    rw [lX5_counted_136.eq_2] at hf
    refine g_iload_n C 3 dX5_counted_136 rfl rfl ?_
    refine g_iconst C dX5_counted_137 ic_4 ?_
    refine g_icmp_ge (tgt := 170) hf C dX5_counted_138 (by decide) (fun hf => ?_) (fun hf => ?_)
    · refine g_lv [0, 1, 2] rfl ?_
      exact hk170 v2 hf
    · refine g_iload_n C 2 dX5_counted_141 rfl rfl ?_
      refine g_iload_n C 1 dX5_counted_142 rfl rfl ?_
      refine g_bipush C dX5_counted_143 bp_7 ?_
      refine g_join (P := fun j => ∀ (y21 : Int32), j y21 = some r → G wM h X 162 [(0, .ref (h 0)), (1, .int p1), (3, .int v3)] [.int y21, .int v2] σ) hf (fun y21 hf => ?_) (fun j20 hj20 hf => ?_)
      · refine g_iadd C dX5_counted_162 ?_
        refine g_leti hf (fun x22 hf => ?_)
        refine g_istore_n C [1, 2, 0, 3] dX5_counted_163 rfl (Nat.le_of_ble_eq_true rfl) rfl ?_
        refine g_iinc C 3 [1, 2, 3, 0] dX5_counted_164 rfl ic_1 (Nat.le_of_ble_eq_true rfl) rfl ?_
        refine g_goto (tgt := 136) C dX5_counted_167 (by decide) ?_
        exact ih x22 (v3 + (1 : Int32)) hf
      · refine g_icmp_ne (tgt := 161) hf C dX5_counted_145 (by decide) (fun hf => ?_) (fun hf => ?_)
        · refine g_iconst C dX5_counted_161 ic_0 ?_
          refine g_lv [0, 1, 3] rfl ?_
          exact hj20 (0 : Int32) hf
        · refine g_aload_n C 0 dX5_counted_148 rfl rfl ?_
          refine g_getC (n := 5) C in_X5_counted_X5 (k := 8) lk_X5_counted_3 rfl (Nat.le_of_ble_eq_true rfl) rfl (Nat.le_of_ble_eq_true rfl) rfl dX5_counted_149 ?_
          refine g_iload_n C 3 dX5_counted_152 rfl rfl ?_
          refine g_iald hf C rfl (Nat.le_of_ble_eq_true rfl) dX5_counted_153 (fun hf => ?_)
          refine g_if_lt (tgt := 161) hf C dX5_counted_154 (by decide) (fun hf => ?_) (fun hf => ?_)
          · refine g_iconst C dX5_counted_161 ic_0 ?_
            refine g_lv [0, 1, 3] rfl ?_
            exact hj20 (0 : Int32) hf
          · refine g_iconst C dX5_counted_157 ic_1 ?_
            refine g_goto (tgt := 162) C dX5_counted_158 (by decide) ?_
            refine g_lv [0, 1, 3] rfl ?_
            exact hj20 (1 : Int32) hf
set_option maxHeartbeats 4000000 in
set_option maxRecDepth 100000 in
theorem mX5_counted (l0 : Launch) (D0 : va_G) (K0 : Nat → ClassId) (h : Nat → Nat) (σ : pS) (a1 : Int32) {r : Int32} (hf : fX5_counted σ a1 = some r) : Met l0 yX5_counted wsX5_counted ({ frames := 2, cells := 0, slots := 0, locals := 44 } : Room) (va_Pc [.ref (h 0), .int a1] (pIn wM D0 K0 h σ)) (va_Qi (fun r' u' => r' = r ∧ u' = σ) (pOut wM D0 K0 h) (pA wM h)) 0 0 (pA wM h) := by
  refine p_metI (lv := [(0, .ref (h 0)), (1, .int a1)]) (by decide +kernel) rfl rfl (Nat.le_of_ble_eq_true rfl) rfl (fun X C hret => ?_)
  unfold fX5_counted at hf
  refine g_iconst C dX5_counted_0 ic_0 ?_
  refine g_istore_n C [1, 2, 0] dX5_counted_1 rfl (Nat.le_of_ble_eq_true rfl) rfl ?_
  refine g_iconst C dX5_counted_2 ic_0 ?_
  refine g_istore_n C [1, 2, 3, 0] dX5_counted_3 rfl (Nat.le_of_ble_eq_true rfl) rfl ?_
  refine lX5_counted_4_ok σ a1 C hret (fun y11 hf => ?_) FU (0 : Int32) (0 : Int32) hf
  refine g_iconst C dX5_counted_62 ic_0 ?_
  refine g_istore_n C [1, 2, 3, 0] dX5_counted_63 rfl (Nat.le_of_ble_eq_true rfl) rfl ?_
  refine lX5_counted_64_ok σ a1 C hret (fun y15 hf => ?_) FU y11 (0 : Int32) hf
  refine g_iconst C dX5_counted_97 ic_0 ?_
  refine g_istore_n C [1, 2, 3, 0] dX5_counted_98 rfl (Nat.le_of_ble_eq_true rfl) rfl ?_
  refine lX5_counted_99_ok σ a1 C hret (fun y19 hf => ?_) FU y15 (0 : Int32) hf
  refine g_iconst C dX5_counted_134 ic_0 ?_
  refine g_istore_n C [1, 2, 3, 0] dX5_counted_135 rfl (Nat.le_of_ble_eq_true rfl) rfl ?_
  refine lX5_counted_136_ok σ a1 C hret (fun y23 hf => ?_) FU y19 (0 : Int32) hf
  refine g_iload_n C 1 dX5_counted_170 rfl rfl ?_
  refine g_if_ne (tgt := 181) hf C dX5_counted_171 (by decide) (fun hf => ?_) (fun hf => ?_)
  · refine g_iload_n C 1 dX5_counted_181 rfl rfl ?_
    refine g_iconst C dX5_counted_182 ic_1 ?_
    refine g_icmp_ne (tgt := 193) hf C dX5_counted_183 (by decide) (fun hf => ?_) (fun hf => ?_)
    · refine g_iload_n C 1 dX5_counted_193 rfl rfl ?_
      refine g_iconst C dX5_counted_194 ic_2 ?_
      refine g_icmp_ne (tgt := 205) hf C dX5_counted_195 (by decide) (fun hf => ?_) (fun hf => ?_)
      · refine g_iload_n C 2 dX5_counted_205 rfl rfl ?_
        exact g_reti hf hret dX5_counted_206
      · refine g_aload_n C 0 dX5_counted_198 rfl rfl ?_
        obtain ⟨r25, hc24, hf⟩ := g_bind hf
        refine g_callVi C (mX5_paidNow l0 D0 K0 h σ hc24) gX5_counted_X5_paidNow rfl rfl rfl ddX5_paidNow ⟨(Nat.le_of_ble_eq_true rfl), (Nat.le_of_ble_eq_true rfl)⟩ rfl (Nat.le_of_ble_eq_true rfl) rfl rfl rfl (Nat.le_of_ble_eq_true rfl) dX5_counted_199 ?_
        refine g_goto (tgt := 206) C dX5_counted_202 (by decide) ?_
        exact g_reti hf hret dX5_counted_206
    · refine g_aload_n C 0 dX5_counted_186 rfl rfl ?_
      refine g_getI C in_X5_counted_X5 (k := 12) lk_X5_counted_4 rfl (Nat.le_of_ble_eq_true rfl) rfl (Nat.le_of_ble_eq_true rfl) rfl dX5_counted_187 ?_
      refine g_goto (tgt := 206) C dX5_counted_190 (by decide) ?_
      exact g_reti hf hret dX5_counted_206
  · refine g_aload_n C 0 dX5_counted_174 rfl rfl ?_
    refine g_getI C in_X5_counted_X5 (k := 10) lk_X5_counted_0 rfl (Nat.le_of_ble_eq_true rfl) rfl (Nat.le_of_ble_eq_true rfl) rfl dX5_counted_175 ?_
    refine g_goto (tgt := 206) C dX5_counted_178 (by decide) ?_
    exact g_reti hf hret dX5_counted_206
/-! X5_count -/
theorem ddX5_count : yX5_count.cls = RX5 ∧ yX5_count.cls ≠ "java/lang/invoke/MethodHandle" ∧ yX5_count.cls ≠ "java/lang/invoke/VarHandle" ∧ (parseMethodDescriptor yX5_count.desc).map (fun d => d.parameters.length) = some 1 := by decide +kernel
set_option maxHeartbeats 4000000 in
set_option maxRecDepth 100000 in
theorem mX5_count (l0 : Launch) (D0 : va_G) (K0 : Nat → ClassId) (h : Nat → Nat) (σ : pS) (a1 : Int32) {r : Int32} (hf : fX5_count σ a1 = some r) : Met l0 yX5_count wsX5_count ({ frames := 3, cells := 0, slots := 0, locals := 67 } : Room) (va_Pc [.ref (h 0), .int a1] (pIn wM D0 K0 h σ)) (va_Qi (fun r' u' => r' = r ∧ u' = σ) (pOut wM D0 K0 h) (pA wM h)) 0 0 (pA wM h) := by
  refine p_metI (lv := [(0, .ref (h 0)), (1, .int a1)]) (by decide +kernel) rfl rfl (Nat.le_of_ble_eq_true rfl) rfl (fun X C hret => ?_)
  unfold fX5_count at hf
  refine g_iload_n C 1 dX5_count_0 rfl rfl ?_
  refine g_iconst C dX5_count_1 ic_0 ?_
  refine g_bipush C dX5_count_2 bp_7 ?_
  obtain ⟨r2, hc1, hf⟩ := g_bind hf
  refine g_callSi C (mX5_in l0 D0 K0 h σ a1 (0 : Int32) (7 : Int32) hc1) gX5_count_X5_in rfl rfl rfl ddX5_in ⟨(Nat.le_of_ble_eq_true rfl), (Nat.le_of_ble_eq_true rfl)⟩ rfl rfl (Nat.le_of_ble_eq_true rfl) dX5_count_4 ?_
  refine g_if_eq (tgt := 18) hf C dX5_count_7 (by decide) (fun hf => ?_) (fun hf => ?_)
  · refine g_iconst C dX5_count_18 ic_m1 ?_
    exact g_reti hf hret dX5_count_19
  · refine g_aload_n C 0 dX5_count_10 rfl rfl ?_
    refine g_iload_n C 1 dX5_count_11 rfl rfl ?_
    obtain ⟨r4, hc3, hf⟩ := g_bind hf
    refine g_callVi C (mX5_counted l0 D0 K0 h σ a1 hc3) gX5_count_X5_counted rfl rfl rfl ddX5_counted ⟨(Nat.le_of_ble_eq_true rfl), (Nat.le_of_ble_eq_true rfl)⟩ rfl (Nat.le_of_ble_eq_true rfl) rfl rfl rfl (Nat.le_of_ble_eq_true rfl) dX5_count_12 ?_
    refine g_goto (tgt := 19) C dX5_count_15 (by decide) ?_
    exact g_reti hf hret dX5_count_19
/-! X5_mix -/
theorem in_X5_mix_X5 : ∀ q ∈ u_ws RX5 TX5 30, q ∈ wsX5_mix := by decide +kernel
theorem lk_X5_mix_0 : Cond.constantLong RX5 273 (31) ∈ wsX5_mix := by decide +kernel
theorem lk_X5_mix_1 : Cond.fieldLink RX5 275 "EmptyHouseModel" "hash" "J" ∈ wsX5_mix := by decide +kernel
theorem ddX5_mix : yX5_mix.cls = RX5 ∧ yX5_mix.cls ≠ "java/lang/invoke/MethodHandle" ∧ yX5_mix.cls ≠ "java/lang/invoke/VarHandle" ∧ (parseMethodDescriptor yX5_mix.desc).map (fun d => d.parameters.length) = some 1 := by decide +kernel
set_option maxHeartbeats 4000000 in
set_option maxRecDepth 100000 in
theorem mX5_mix (l0 : Launch) (D0 : va_G) (K0 : Nat → ClassId) (h : Nat → Nat) (σ : pS) (a1 : Int64) {r : Unit} {u : pS} (hf : fX5_mix σ a1 = some (r, u)) : Met l0 yX5_mix wsX5_mix ({ frames := 0, cells := 0, slots := 0, locals := 0 } : Room) (va_Pc [.ref (h 0), .long a1] (pIn wM D0 K0 h σ)) (va_Qv (fun u' => u' = u) (pOut wM D0 K0 h) (pA wM h)) 0 0 (pA wM h) := by
  refine p_metV (lv := [(0, .ref (h 0)), (1, .long a1)]) (by decide +kernel) rfl rfl (Nat.le_of_ble_eq_true rfl) rfl (fun X C hret => ?_)
  unfold fX5_mix at hf
  refine g_aload_n C 0 dX5_mix_0 rfl rfl ?_
  refine g_ldc2 C lk_X5_mix_0 dX5_mix_1 ?_
  refine g_aload_n C 0 dX5_mix_4 rfl rfl ?_
  refine g_getL C in_X5_mix_X5 (k := 29) lk_X5_mix_1 rfl (Nat.le_of_ble_eq_true rfl) rfl (Nat.le_of_ble_eq_true rfl) rfl dX5_mix_5 ?_
  refine g_lmul C dX5_mix_8 ?_
  refine g_lload_n C 1 dX5_mix_9 rfl rfl ?_
  refine g_ladd C dX5_mix_10 ?_
  refine g_putL C in_X5_mix_X5 (k := 29) lk_X5_mix_1 rfl (Nat.le_of_ble_eq_true rfl) rfl (Nat.le_of_ble_eq_true rfl) tyX5 tyX5_ok nmX5 rfl rfl rfl rfl dX5_mix_11 ?_
  refine g_lets hf (fun σ1 hf => ?_)
  exact g_retvW hf hret dX5_mix_14
/-! X5_mixVillage -/
theorem in_X5_mixVillage_X5 : ∀ q ∈ u_ws RX5 TX5 30, q ∈ wsX5_mixVillage := by decide +kernel
theorem lk_X5_mixVillage_0 : Cond.fieldLink RX5 146 "EmptyHouseModel" "lawNow" "I" ∈ wsX5_mixVillage := by decide +kernel
theorem lk_X5_mixVillage_1 : Cond.fieldLink RX5 140 "EmptyHouseModel" "n" "I" ∈ wsX5_mixVillage := by decide +kernel
theorem lk_X5_mixVillage_2 : Cond.fieldLink RX5 29 "EmptyHouseModel" "people" "[I" ∈ wsX5_mixVillage := by decide +kernel
theorem lk_X5_mixVillage_3 : Cond.fieldLink RX5 143 "EmptyHouseModel" "debtMany" "I" ∈ wsX5_mixVillage := by decide +kernel
theorem lk_X5_mixVillage_4 : Cond.fieldLink RX5 32 "EmptyHouseModel" "debts" "[I" ∈ wsX5_mixVillage := by decide +kernel
theorem lk_X5_mixVillage_5 : Cond.fieldLink RX5 58 "EmptyHouseModel" "isKept" "[Z" ∈ wsX5_mixVillage := by decide +kernel
theorem lk_X5_mixVillage_6 : Cond.fieldLink RX5 61 "EmptyHouseModel" "books" "[I" ∈ wsX5_mixVillage := by decide +kernel
theorem lk_X5_mixVillage_7 : Cond.constantLong RX5 282 (-1) ∈ wsX5_mixVillage := by decide +kernel
theorem ddX5_mixVillage : yX5_mixVillage.cls = RX5 ∧ yX5_mixVillage.cls ≠ "java/lang/invoke/MethodHandle" ∧ yX5_mixVillage.cls ≠ "java/lang/invoke/VarHandle" ∧ (parseMethodDescriptor yX5_mixVillage.desc).map (fun d => d.parameters.length) = some 0 := by decide +kernel
set_option maxHeartbeats 4000000 in
set_option maxRecDepth 100000 in
theorem lX5_mixVillage_11_ok {h : Nat → Nat} {X : Cx} {l0 : Launch} {D0 : va_G} {K0 : Nat → ClassId} {k38 : pS → Option (Unit × pS)} {r : Unit} {u : pS} (C : Cok wM h X l0 ({ frames := 1, cells := 0, slots := 0, locals := 22 } : Room) D0 K0 cX5_mixVillage 3 RX5 wsX5_mixVillage) (hret : ∀ (pc : Nat) (lv' : List (Nat × Value)), decode cX5_mixVillage pc = .ok (.return_, 1) → G wM h X pc lv' [] u) (hk38 : ∀  (σ : pS), k38 σ = some (r, u) → G wM h X 38 [(0, .ref (h 0))] [] σ) : ∀ (F : Nat) (v1 : Int32) (σ : pS), lX5_mixVillage_11 k38 F v1 σ = some (r, u) → G wM h X 11 [(0, .ref (h 0)), (1, .int v1)] [] σ := by
  intro F
  induction F with
  | zero => intro v1 σ hf; exact absurd hf (by simp [lX5_mixVillage_11])
  | succ F ih =>
    intro v1 σ hf
    rw [lX5_mixVillage_11.eq_2] at hf
    refine g_iload_n C 1 dX5_mixVillage_11 rfl rfl ?_
    refine g_iconst C dX5_mixVillage_12 ic_4 ?_
    refine g_aload_n C 0 dX5_mixVillage_13 rfl rfl ?_
    refine g_getI C in_X5_mixVillage_X5 (k := 10) lk_X5_mixVillage_1 rfl (Nat.le_of_ble_eq_true rfl) rfl (Nat.le_of_ble_eq_true rfl) rfl dX5_mixVillage_14 ?_
    refine g_imul C dX5_mixVillage_17 ?_
    refine g_icmp_ge (tgt := 38) hf C dX5_mixVillage_18 (by decide) (fun hf => ?_) (fun hf => ?_)
    · refine g_lv [0] rfl ?_
      exact hk38 σ hf
    · refine g_aload_n C 0 dX5_mixVillage_21 rfl rfl ?_
      refine g_aload_n C 0 dX5_mixVillage_22 rfl rfl ?_
      refine g_getC (n := 7) C in_X5_mixVillage_X5 (k := 11) lk_X5_mixVillage_2 rfl (Nat.le_of_ble_eq_true rfl) rfl (Nat.le_of_ble_eq_true rfl) rfl dX5_mixVillage_23 ?_
      refine g_iload_n C 1 dX5_mixVillage_26 rfl rfl ?_
      refine g_iald hf C rfl (Nat.le_of_ble_eq_true rfl) dX5_mixVillage_27 (fun hf => ?_)
      refine g_i2l C dX5_mixVillage_28 ?_
      obtain ⟨r5, σ6, hc4, hf⟩ := g_pbind hf
      refine g_callVv C (mX5_mix l0 D0 K0 h σ ((pI σ 7 (v1).toNatClampNeg)).toInt64 hc4) gX5_mixVillage_X5_mix rfl rfl rfl ddX5_mix ⟨(Nat.le_of_ble_eq_true rfl), (Nat.le_of_ble_eq_true rfl)⟩ rfl (Nat.le_of_ble_eq_true rfl) rfl rfl rfl (Nat.le_of_ble_eq_true rfl) dX5_mixVillage_29 ?_
      refine g_iinc C 1 [1, 0] dX5_mixVillage_32 rfl ic_1 (Nat.le_of_ble_eq_true rfl) rfl ?_
      refine g_goto (tgt := 11) C dX5_mixVillage_35 (by decide) ?_
      exact ih (v1 + (1 : Int32)) σ6 hf
set_option maxHeartbeats 4000000 in
set_option maxRecDepth 100000 in
theorem lX5_mixVillage_40_ok {h : Nat → Nat} {X : Cx} {l0 : Launch} {D0 : va_G} {K0 : Nat → ClassId} {k67 : pS → Option (Unit × pS)} {r : Unit} {u : pS} (C : Cok wM h X l0 ({ frames := 1, cells := 0, slots := 0, locals := 22 } : Room) D0 K0 cX5_mixVillage 3 RX5 wsX5_mixVillage) (hret : ∀ (pc : Nat) (lv' : List (Nat × Value)), decode cX5_mixVillage pc = .ok (.return_, 1) → G wM h X pc lv' [] u) (hk67 : ∀  (σ : pS), k67 σ = some (r, u) → G wM h X 67 [(0, .ref (h 0))] [] σ) : ∀ (F : Nat) (v1 : Int32) (σ : pS), lX5_mixVillage_40 k67 F v1 σ = some (r, u) → G wM h X 40 [(0, .ref (h 0)), (1, .int v1)] [] σ := by
  intro F
  induction F with
  | zero => intro v1 σ hf; exact absurd hf (by simp [lX5_mixVillage_40])
  | succ F ih =>
    intro v1 σ hf
    rw [lX5_mixVillage_40.eq_2] at hf
    refine g_iload_n C 1 dX5_mixVillage_40 rfl rfl ?_
    refine g_iconst C dX5_mixVillage_41 ic_5 ?_
    refine g_aload_n C 0 dX5_mixVillage_42 rfl rfl ?_
    refine g_getI C in_X5_mixVillage_X5 (k := 12) lk_X5_mixVillage_3 rfl (Nat.le_of_ble_eq_true rfl) rfl (Nat.le_of_ble_eq_true rfl) rfl dX5_mixVillage_43 ?_
    refine g_imul C dX5_mixVillage_46 ?_
    refine g_icmp_ge (tgt := 67) hf C dX5_mixVillage_47 (by decide) (fun hf => ?_) (fun hf => ?_)
    · refine g_lv [0] rfl ?_
      exact hk67 σ hf
    · refine g_aload_n C 0 dX5_mixVillage_50 rfl rfl ?_
      refine g_aload_n C 0 dX5_mixVillage_51 rfl rfl ?_
      refine g_getC (n := 8) C in_X5_mixVillage_X5 (k := 13) lk_X5_mixVillage_4 rfl (Nat.le_of_ble_eq_true rfl) rfl (Nat.le_of_ble_eq_true rfl) rfl dX5_mixVillage_52 ?_
      refine g_iload_n C 1 dX5_mixVillage_55 rfl rfl ?_
      refine g_iald hf C rfl (Nat.le_of_ble_eq_true rfl) dX5_mixVillage_56 (fun hf => ?_)
      refine g_i2l C dX5_mixVillage_57 ?_
      obtain ⟨r9, σ10, hc8, hf⟩ := g_pbind hf
      refine g_callVv C (mX5_mix l0 D0 K0 h σ ((pI σ 8 (v1).toNatClampNeg)).toInt64 hc8) gX5_mixVillage_X5_mix rfl rfl rfl ddX5_mix ⟨(Nat.le_of_ble_eq_true rfl), (Nat.le_of_ble_eq_true rfl)⟩ rfl (Nat.le_of_ble_eq_true rfl) rfl rfl rfl (Nat.le_of_ble_eq_true rfl) dX5_mixVillage_58 ?_
      refine g_iinc C 1 [1, 0] dX5_mixVillage_61 rfl ic_1 (Nat.le_of_ble_eq_true rfl) rfl ?_
      refine g_goto (tgt := 40) C dX5_mixVillage_64 (by decide) ?_
      exact ih (v1 + (1 : Int32)) σ10 hf
set_option maxHeartbeats 4000000 in
set_option maxRecDepth 100000 in
theorem lX5_mixVillage_92_ok {h : Nat → Nat} {X : Cx} {l0 : Launch} {D0 : va_G} {K0 : Nat → ClassId} (p1 : Int32) {k131 : pS → Option (Unit × pS)} {r : Unit} {u : pS} (C : Cok wM h X l0 ({ frames := 1, cells := 0, slots := 0, locals := 22 } : Room) D0 K0 cX5_mixVillage 3 RX5 wsX5_mixVillage) (hret : ∀ (pc : Nat) (lv' : List (Nat × Value)), decode cX5_mixVillage pc = .ok (.return_, 1) → G wM h X pc lv' [] u) (hk131 : ∀  (σ : pS), k131 σ = some (r, u) → G wM h X 131 [(0, .ref (h 0)), (1, .int p1)] [] σ) : ∀ (F : Nat) (v2 : Int32) (σ : pS), lX5_mixVillage_92 p1 k131 F v2 σ = some (r, u) → G wM h X 92 [(0, .ref (h 0)), (1, .int p1), (2, .int v2)] [] σ := by
  intro F
  induction F with
  | zero => intro v2 σ hf; exact absurd hf (by simp [lX5_mixVillage_92])
  | succ F ih =>
    intro v2 σ hf
    rw [lX5_mixVillage_92.eq_2] at hf
    refine g_iload_n C 2 dX5_mixVillage_92 rfl rfl ?_
    refine g_aload_n C 0 dX5_mixVillage_93 rfl rfl ?_
    refine g_getI C in_X5_mixVillage_X5 (k := 12) lk_X5_mixVillage_3 rfl (Nat.le_of_ble_eq_true rfl) rfl (Nat.le_of_ble_eq_true rfl) rfl dX5_mixVillage_94 ?_
    refine g_icmp_ge (tgt := 131) hf C dX5_mixVillage_97 (by decide) (fun hf => ?_) (fun hf => ?_)
    · refine g_lv [0, 1] rfl ?_
      exact hk131 σ hf
    · refine g_aload_n C 0 dX5_mixVillage_100 rfl rfl ?_
      refine g_getC (n := 16) C in_X5_mixVillage_X5 (k := 27) lk_X5_mixVillage_5 rfl (Nat.le_of_ble_eq_true rfl) rfl (Nat.le_of_ble_eq_true rfl) rfl dX5_mixVillage_101 ?_
      refine g_iload_n C 1 dX5_mixVillage_104 rfl rfl ?_
      refine g_zald hf C rfl (Nat.le_of_ble_eq_true rfl) dX5_mixVillage_105 (fun hf => ?_)
      refine g_if_eq (tgt := 131) hf C dX5_mixVillage_106 (by decide) (fun hf => ?_) (fun hf => ?_)
      · refine g_lv [0, 1] rfl ?_
        exact hk131 σ hf
      · refine g_aload_n C 0 dX5_mixVillage_109 rfl rfl ?_
        refine g_aload_n C 0 dX5_mixVillage_110 rfl rfl ?_
        refine g_getC (n := 17) C in_X5_mixVillage_X5 (k := 28) lk_X5_mixVillage_6 rfl (Nat.le_of_ble_eq_true rfl) rfl (Nat.le_of_ble_eq_true rfl) rfl dX5_mixVillage_111 ?_
        refine g_bipush C dX5_mixVillage_114 bp_8 ?_
        refine g_iload_n C 1 dX5_mixVillage_116 rfl rfl ?_
        refine g_imul C dX5_mixVillage_117 ?_
        refine g_iload_n C 2 dX5_mixVillage_118 rfl rfl ?_
        refine g_iadd C dX5_mixVillage_119 ?_
        refine g_iald hf C rfl (Nat.le_of_ble_eq_true rfl) dX5_mixVillage_120 (fun hf => ?_)
        refine g_i2l C dX5_mixVillage_121 ?_
        obtain ⟨r15, σ16, hc14, hf⟩ := g_pbind hf
        refine g_callVv C (mX5_mix l0 D0 K0 h σ ((pI σ 17 ((((8 : Int32) * p1) + v2)).toNatClampNeg)).toInt64 hc14) gX5_mixVillage_X5_mix rfl rfl rfl ddX5_mix ⟨(Nat.le_of_ble_eq_true rfl), (Nat.le_of_ble_eq_true rfl)⟩ rfl (Nat.le_of_ble_eq_true rfl) rfl rfl rfl (Nat.le_of_ble_eq_true rfl) dX5_mixVillage_122 ?_
        refine g_iinc C 2 [1, 2, 0] dX5_mixVillage_125 rfl ic_1 (Nat.le_of_ble_eq_true rfl) rfl ?_
        refine g_goto (tgt := 92) C dX5_mixVillage_128 (by decide) ?_
        exact ih (v2 + (1 : Int32)) σ16 hf
set_option maxHeartbeats 4000000 in
set_option maxRecDepth 100000 in
theorem lX5_mixVillage_69_ok {h : Nat → Nat} {X : Cx} {l0 : Launch} {D0 : va_G} {K0 : Nat → ClassId} {k137 : pS → Option (Unit × pS)} {r : Unit} {u : pS} (C : Cok wM h X l0 ({ frames := 1, cells := 0, slots := 0, locals := 22 } : Room) D0 K0 cX5_mixVillage 3 RX5 wsX5_mixVillage) (hret : ∀ (pc : Nat) (lv' : List (Nat × Value)), decode cX5_mixVillage pc = .ok (.return_, 1) → G wM h X pc lv' [] u) (hk137 : ∀  (σ : pS), k137 σ = some (r, u) → G wM h X 137 [] [] σ) : ∀ (F : Nat) (v1 : Int32) (σ : pS), lX5_mixVillage_69 k137 F v1 σ = some (r, u) → G wM h X 69 [(0, .ref (h 0)), (1, .int v1)] [] σ := by
  intro F
  induction F with
  | zero => intro v1 σ hf; exact absurd hf (by simp [lX5_mixVillage_69])
  | succ F ih =>
    intro v1 σ hf
    rw [lX5_mixVillage_69.eq_2] at hf
    refine g_iload_n C 1 dX5_mixVillage_69 rfl rfl ?_
    refine g_iconst C dX5_mixVillage_70 ic_3 ?_
    refine g_icmp_ge (tgt := 137) hf C dX5_mixVillage_71 (by decide) (fun hf => ?_) (fun hf => ?_)
    · refine g_lv [] rfl ?_
      exact hk137 σ hf
    · refine g_aload_n C 0 dX5_mixVillage_74 rfl rfl ?_
      refine g_getC (n := 16) C in_X5_mixVillage_X5 (k := 27) lk_X5_mixVillage_5 rfl (Nat.le_of_ble_eq_true rfl) rfl (Nat.le_of_ble_eq_true rfl) rfl dX5_mixVillage_75 ?_
      refine g_iload_n C 1 dX5_mixVillage_78 rfl rfl ?_
      refine g_zald hf C rfl (Nat.le_of_ble_eq_true rfl) dX5_mixVillage_79 (fun hf => ?_)
      refine g_join (P := fun j => ∀ (σ13 : pS), j σ13 = some (r, u) → G wM h X 90 [(0, .ref (h 0)), (1, .int v1)] [] σ13) hf (fun σ13 hf => ?_) (fun j12 hj12 hf => ?_)
      · refine g_iconst C dX5_mixVillage_90 ic_0 ?_
        refine g_istore_n C [1, 2, 0] dX5_mixVillage_91 rfl (Nat.le_of_ble_eq_true rfl) rfl ?_
        refine lX5_mixVillage_92_ok v1 C hret (fun σ17 hf => ?_) FU (0 : Int32) σ13 hf
        refine g_iinc C 1 [1, 0] dX5_mixVillage_131 rfl ic_1 (Nat.le_of_ble_eq_true rfl) rfl ?_
        refine g_goto (tgt := 69) C dX5_mixVillage_134 (by decide) ?_
        exact ih (v1 + (1 : Int32)) σ17 hf
      · refine g_if_ne (tgt := 90) hf C dX5_mixVillage_80 (by decide) (fun hf => ?_) (fun hf => ?_)
        · exact hj12 σ hf
        · refine g_aload_n C 0 dX5_mixVillage_83 rfl rfl ?_
          refine g_ldc2 C lk_X5_mixVillage_7 dX5_mixVillage_84 ?_
          obtain ⟨r19, σ20, hc18, hf⟩ := g_pbind hf
          refine g_callVv C (mX5_mix l0 D0 K0 h σ (-1 : Int64) hc18) gX5_mixVillage_X5_mix rfl rfl rfl ddX5_mix ⟨(Nat.le_of_ble_eq_true rfl), (Nat.le_of_ble_eq_true rfl)⟩ rfl (Nat.le_of_ble_eq_true rfl) rfl rfl rfl (Nat.le_of_ble_eq_true rfl) dX5_mixVillage_87 ?_
          exact hj12 σ20 hf
set_option maxHeartbeats 4000000 in
set_option maxRecDepth 100000 in
theorem mX5_mixVillage (l0 : Launch) (D0 : va_G) (K0 : Nat → ClassId) (h : Nat → Nat) (σ : pS)  {r : Unit} {u : pS} (hf : fX5_mixVillage σ = some (r, u)) : Met l0 yX5_mixVillage wsX5_mixVillage ({ frames := 1, cells := 0, slots := 0, locals := 22 } : Room) (va_Pc [.ref (h 0)] (pIn wM D0 K0 h σ)) (va_Qv (fun u' => u' = u) (pOut wM D0 K0 h) (pA wM h)) 0 0 (pA wM h) := by
  refine p_metV (lv := [(0, .ref (h 0))]) (by decide +kernel) rfl rfl (Nat.le_of_ble_eq_true rfl) rfl (fun X C hret => ?_)
  unfold fX5_mixVillage at hf
  refine g_aload_n C 0 dX5_mixVillage_0 rfl rfl ?_
  refine g_aload_n C 0 dX5_mixVillage_1 rfl rfl ?_
  refine g_getI C in_X5_mixVillage_X5 (k := 14) lk_X5_mixVillage_0 rfl (Nat.le_of_ble_eq_true rfl) rfl (Nat.le_of_ble_eq_true rfl) rfl dX5_mixVillage_2 ?_
  refine g_i2l C dX5_mixVillage_5 ?_
  obtain ⟨r2, σ3, hc1, hf⟩ := g_pbind hf
  refine g_callVv C (mX5_mix l0 D0 K0 h σ ((pI σ 0 14)).toInt64 hc1) gX5_mixVillage_X5_mix rfl rfl rfl ddX5_mix ⟨(Nat.le_of_ble_eq_true rfl), (Nat.le_of_ble_eq_true rfl)⟩ rfl (Nat.le_of_ble_eq_true rfl) rfl rfl rfl (Nat.le_of_ble_eq_true rfl) dX5_mixVillage_6 ?_
  refine g_iconst C dX5_mixVillage_9 ic_0 ?_
  refine g_istore_n C [1, 0] dX5_mixVillage_10 rfl (Nat.le_of_ble_eq_true rfl) rfl ?_
  refine lX5_mixVillage_11_ok  C hret (fun σ7 hf => ?_) FU (0 : Int32) σ3 hf
  refine g_iconst C dX5_mixVillage_38 ic_0 ?_
  refine g_istore_n C [1, 0] dX5_mixVillage_39 rfl (Nat.le_of_ble_eq_true rfl) rfl ?_
  refine lX5_mixVillage_40_ok  C hret (fun σ11 hf => ?_) FU (0 : Int32) σ7 hf
  refine g_iconst C dX5_mixVillage_67 ic_0 ?_
  refine g_istore_n C [1, 0] dX5_mixVillage_68 rfl (Nat.le_of_ble_eq_true rfl) rfl ?_
  refine lX5_mixVillage_69_ok  C hret (fun σ21 hf => ?_) FU (0 : Int32) σ11 hf
  exact g_retvW hf hret dX5_mixVillage_137
/-! X5_digest -/
theorem in_X5_digest_X5 : ∀ q ∈ u_ws RX5 TX5 30, q ∈ wsX5_digest := by decide +kernel
theorem lk_X5_digest_0 : Cond.constantLong RX5 284 (17) ∈ wsX5_digest := by decide +kernel
theorem lk_X5_digest_1 : Cond.fieldLink RX5 275 "EmptyHouseModel" "hash" "J" ∈ wsX5_digest := by decide +kernel
theorem lk_X5_digest_2 : Cond.fieldLink RX5 13 "EmptyHouseModel" "sizes" "[I" ∈ wsX5_digest := by decide +kernel
theorem lk_X5_digest_3 : Cond.fieldLink RX5 22 "EmptyHouseModel" "textSizes" "[I" ∈ wsX5_digest := by decide +kernel
theorem ddX5_digest : yX5_digest.cls = RX5 ∧ yX5_digest.cls ≠ "java/lang/invoke/MethodHandle" ∧ yX5_digest.cls ≠ "java/lang/invoke/VarHandle" ∧ (parseMethodDescriptor yX5_digest.desc).map (fun d => d.parameters.length) = some 0 := by decide +kernel
set_option maxHeartbeats 4000000 in
set_option maxRecDepth 100000 in
theorem lX5_digest_9_ok {h : Nat → Nat} {X : Cx} {l0 : Launch} {D0 : va_G} {K0 : Nat → ClassId} {k31 : pS → Option (Int64 × pS)} {r : Int64} {u : pS} (C : Cok wM h X l0 ({ frames := 3, cells := 0, slots := 0, locals := 67 } : Room) D0 K0 cX5_digest 3 RX5 wsX5_digest) (hret : ∀ (pc : Nat) (lv' : List (Nat × Value)), decode cX5_digest pc = .ok (.lreturn, 1) → G wM h X pc lv' [.long r] u) (hk31 : ∀  (σ : pS), k31 σ = some (r, u) → G wM h X 31 [(0, .ref (h 0))] [] σ) : ∀ (F : Nat) (v1 : Int32) (σ : pS), lX5_digest_9 k31 F v1 σ = some (r, u) → G wM h X 9 [(0, .ref (h 0)), (1, .int v1)] [] σ := by
  intro F
  induction F with
  | zero => intro v1 σ hf; exact absurd hf (by simp [lX5_digest_9])
  | succ F ih =>
    intro v1 σ hf
    rw [lX5_digest_9.eq_2] at hf
    refine g_iload_n C 1 dX5_digest_9 rfl rfl ?_
    refine g_bipush C dX5_digest_10 bp_8 ?_
    refine g_icmp_ge (tgt := 31) hf C dX5_digest_12 (by decide) (fun hf => ?_) (fun hf => ?_)
    · refine g_lv [0] rfl ?_
      exact hk31 σ hf
    · refine g_aload_n C 0 dX5_digest_15 rfl rfl ?_
      refine g_aload_n C 0 dX5_digest_16 rfl rfl ?_
      refine g_iload_n C 1 dX5_digest_17 rfl rfl ?_
      obtain ⟨r3, hc2, hf⟩ := g_bind hf
      refine g_callVi C (mX5_counted l0 D0 K0 h σ v1 hc2) gX5_digest_X5_counted rfl rfl rfl ddX5_counted ⟨(Nat.le_of_ble_eq_true rfl), (Nat.le_of_ble_eq_true rfl)⟩ rfl (Nat.le_of_ble_eq_true rfl) rfl rfl rfl (Nat.le_of_ble_eq_true rfl) dX5_digest_18 ?_
      refine g_i2l C dX5_digest_21 ?_
      obtain ⟨r5, σ6, hc4, hf⟩ := g_pbind hf
      refine g_callVv C (mX5_mix l0 D0 K0 h σ (r3).toInt64 hc4) gX5_digest_X5_mix rfl rfl rfl ddX5_mix ⟨(Nat.le_of_ble_eq_true rfl), (Nat.le_of_ble_eq_true rfl)⟩ rfl (Nat.le_of_ble_eq_true rfl) rfl rfl rfl (Nat.le_of_ble_eq_true rfl) dX5_digest_22 ?_
      refine g_iinc C 1 [1, 0] dX5_digest_25 rfl ic_1 (Nat.le_of_ble_eq_true rfl) rfl ?_
      refine g_goto (tgt := 9) C dX5_digest_28 (by decide) ?_
      exact ih (v1 + (1 : Int32)) σ6 hf
set_option maxHeartbeats 4000000 in
set_option maxRecDepth 100000 in
theorem lX5_digest_56_ok {h : Nat → Nat} {X : Cx} {l0 : Launch} {D0 : va_G} {K0 : Nat → ClassId} (p1 : Int32) {k83 : pS → Option (Int64 × pS)} {r : Int64} {u : pS} (C : Cok wM h X l0 ({ frames := 3, cells := 0, slots := 0, locals := 67 } : Room) D0 K0 cX5_digest 3 RX5 wsX5_digest) (hret : ∀ (pc : Nat) (lv' : List (Nat × Value)), decode cX5_digest pc = .ok (.lreturn, 1) → G wM h X pc lv' [.long r] u) (hk83 : ∀  (σ : pS), k83 σ = some (r, u) → G wM h X 83 [(0, .ref (h 0)), (1, .int p1)] [] σ) : ∀ (F : Nat) (v2 : Int32) (σ : pS), lX5_digest_56 p1 k83 F v2 σ = some (r, u) → G wM h X 56 [(0, .ref (h 0)), (1, .int p1), (2, .int v2)] [] σ := by
  intro F
  induction F with
  | zero => intro v2 σ hf; exact absurd hf (by simp [lX5_digest_56])
  | succ F ih =>
    intro v2 σ hf
    rw [lX5_digest_56.eq_2] at hf
    refine g_iload_n C 2 dX5_digest_56 rfl rfl ?_
    refine g_aload_n C 0 dX5_digest_57 rfl rfl ?_
    refine g_getC (n := 2) C in_X5_digest_X5 (k := 5) lk_X5_digest_2 rfl (Nat.le_of_ble_eq_true rfl) rfl (Nat.le_of_ble_eq_true rfl) rfl dX5_digest_58 ?_
    refine g_iload_n C 1 dX5_digest_61 rfl rfl ?_
    refine g_iald hf C rfl (Nat.le_of_ble_eq_true rfl) dX5_digest_62 (fun hf => ?_)
    refine g_icmp_ge (tgt := 83) hf C dX5_digest_63 (by decide) (fun hf => ?_) (fun hf => ?_)
    · refine g_lv [0, 1] rfl ?_
      exact hk83 σ hf
    · refine g_aload_n C 0 dX5_digest_66 rfl rfl ?_
      refine g_aload_n C 0 dX5_digest_67 rfl rfl ?_
      refine g_iload_n C 1 dX5_digest_68 rfl rfl ?_
      refine g_iload_n C 2 dX5_digest_69 rfl rfl ?_
      obtain ⟨r15, hc14, hf⟩ := g_bind hf
      refine g_callVi C (mX5_rowAt l0 D0 K0 h σ p1 v2 hc14) gX5_digest_X5_rowAt rfl rfl rfl ddX5_rowAt ⟨(Nat.le_of_ble_eq_true rfl), (Nat.le_of_ble_eq_true rfl)⟩ rfl (Nat.le_of_ble_eq_true rfl) rfl rfl rfl (Nat.le_of_ble_eq_true rfl) dX5_digest_70 ?_
      refine g_i2l C dX5_digest_73 ?_
      obtain ⟨r17, σ18, hc16, hf⟩ := g_pbind hf
      refine g_callVv C (mX5_mix l0 D0 K0 h σ (r15).toInt64 hc16) gX5_digest_X5_mix rfl rfl rfl ddX5_mix ⟨(Nat.le_of_ble_eq_true rfl), (Nat.le_of_ble_eq_true rfl)⟩ rfl (Nat.le_of_ble_eq_true rfl) rfl rfl rfl (Nat.le_of_ble_eq_true rfl) dX5_digest_74 ?_
      refine g_iinc C 2 [1, 2, 0] dX5_digest_77 rfl ic_1 (Nat.le_of_ble_eq_true rfl) rfl ?_
      refine g_goto (tgt := 56) C dX5_digest_80 (by decide) ?_
      exact ih (v2 + (1 : Int32)) σ18 hf
set_option maxHeartbeats 4000000 in
set_option maxRecDepth 100000 in
theorem lX5_digest_37_ok {h : Nat → Nat} {X : Cx} {l0 : Launch} {D0 : va_G} {K0 : Nat → ClassId} {k89 : pS → Option (Int64 × pS)} {r : Int64} {u : pS} (C : Cok wM h X l0 ({ frames := 3, cells := 0, slots := 0, locals := 67 } : Room) D0 K0 cX5_digest 3 RX5 wsX5_digest) (hret : ∀ (pc : Nat) (lv' : List (Nat × Value)), decode cX5_digest pc = .ok (.lreturn, 1) → G wM h X pc lv' [.long r] u) (hk89 : ∀  (σ : pS), k89 σ = some (r, u) → G wM h X 89 [(0, .ref (h 0))] [] σ) : ∀ (F : Nat) (v1 : Int32) (σ : pS), lX5_digest_37 k89 F v1 σ = some (r, u) → G wM h X 37 [(0, .ref (h 0)), (1, .int v1)] [] σ := by
  intro F
  induction F with
  | zero => intro v1 σ hf; exact absurd hf (by simp [lX5_digest_37])
  | succ F ih =>
    intro v1 σ hf
    rw [lX5_digest_37.eq_2] at hf
    refine g_iload_n C 1 dX5_digest_37 rfl rfl ?_
    refine g_bipush C dX5_digest_38 bp_6 ?_
    refine g_icmp_ge (tgt := 89) hf C dX5_digest_40 (by decide) (fun hf => ?_) (fun hf => ?_)
    · refine g_lv [0] rfl ?_
      exact hk89 σ hf
    · refine g_aload_n C 0 dX5_digest_43 rfl rfl ?_
      refine g_aload_n C 0 dX5_digest_44 rfl rfl ?_
      refine g_getC (n := 2) C in_X5_digest_X5 (k := 5) lk_X5_digest_2 rfl (Nat.le_of_ble_eq_true rfl) rfl (Nat.le_of_ble_eq_true rfl) rfl dX5_digest_45 ?_
      refine g_iload_n C 1 dX5_digest_48 rfl rfl ?_
      refine g_iald hf C rfl (Nat.le_of_ble_eq_true rfl) dX5_digest_49 (fun hf => ?_)
      refine g_i2l C dX5_digest_50 ?_
      obtain ⟨r12, σ13, hc11, hf⟩ := g_pbind hf
      refine g_callVv C (mX5_mix l0 D0 K0 h σ ((pI σ 2 (v1).toNatClampNeg)).toInt64 hc11) gX5_digest_X5_mix rfl rfl rfl ddX5_mix ⟨(Nat.le_of_ble_eq_true rfl), (Nat.le_of_ble_eq_true rfl)⟩ rfl (Nat.le_of_ble_eq_true rfl) rfl rfl rfl (Nat.le_of_ble_eq_true rfl) dX5_digest_51 ?_
      refine g_iconst C dX5_digest_54 ic_0 ?_
      refine g_istore_n C [1, 2, 0] dX5_digest_55 rfl (Nat.le_of_ble_eq_true rfl) rfl ?_
      refine lX5_digest_56_ok v1 C hret (fun σ19 hf => ?_) FU (0 : Int32) σ13 hf
      refine g_iinc C 1 [1, 0] dX5_digest_83 rfl ic_1 (Nat.le_of_ble_eq_true rfl) rfl ?_
      refine g_goto (tgt := 37) C dX5_digest_86 (by decide) ?_
      exact ih (v1 + (1 : Int32)) σ19 hf
set_option maxHeartbeats 4000000 in
set_option maxRecDepth 100000 in
theorem lX5_digest_109_ok {h : Nat → Nat} {X : Cx} {l0 : Launch} {D0 : va_G} {K0 : Nat → ClassId} (p1 : Int32) {k136 : pS → Option (Int64 × pS)} {r : Int64} {u : pS} (C : Cok wM h X l0 ({ frames := 3, cells := 0, slots := 0, locals := 67 } : Room) D0 K0 cX5_digest 3 RX5 wsX5_digest) (hret : ∀ (pc : Nat) (lv' : List (Nat × Value)), decode cX5_digest pc = .ok (.lreturn, 1) → G wM h X pc lv' [.long r] u) (hk136 : ∀  (σ : pS), k136 σ = some (r, u) → G wM h X 136 [(0, .ref (h 0)), (1, .int p1)] [] σ) : ∀ (F : Nat) (v2 : Int32) (σ : pS), lX5_digest_109 p1 k136 F v2 σ = some (r, u) → G wM h X 109 [(0, .ref (h 0)), (1, .int p1), (2, .int v2)] [] σ := by
  intro F
  induction F with
  | zero => intro v2 σ hf; exact absurd hf (by simp [lX5_digest_109])
  | succ F ih =>
    intro v2 σ hf
    rw [lX5_digest_109.eq_2] at hf
    refine g_iload_n C 2 dX5_digest_109 rfl rfl ?_
    refine g_aload_n C 0 dX5_digest_110 rfl rfl ?_
    refine g_getC (n := 5) C in_X5_digest_X5 (k := 8) lk_X5_digest_3 rfl (Nat.le_of_ble_eq_true rfl) rfl (Nat.le_of_ble_eq_true rfl) rfl dX5_digest_111 ?_
    refine g_iload_n C 1 dX5_digest_114 rfl rfl ?_
    refine g_iald hf C rfl (Nat.le_of_ble_eq_true rfl) dX5_digest_115 (fun hf => ?_)
    refine g_icmp_ge (tgt := 136) hf C dX5_digest_116 (by decide) (fun hf => ?_) (fun hf => ?_)
    · refine g_lv [0, 1] rfl ?_
      exact hk136 σ hf
    · refine g_aload_n C 0 dX5_digest_119 rfl rfl ?_
      refine g_aload_n C 0 dX5_digest_120 rfl rfl ?_
      refine g_iload_n C 1 dX5_digest_121 rfl rfl ?_
      refine g_iload_n C 2 dX5_digest_122 rfl rfl ?_
      obtain ⟨r25, hc24, hf⟩ := g_bind hf
      refine g_callVi C (mX5_byteAt l0 D0 K0 h σ p1 v2 hc24) gX5_digest_X5_byteAt rfl rfl rfl ddX5_byteAt ⟨(Nat.le_of_ble_eq_true rfl), (Nat.le_of_ble_eq_true rfl)⟩ rfl (Nat.le_of_ble_eq_true rfl) rfl rfl rfl (Nat.le_of_ble_eq_true rfl) dX5_digest_123 ?_
      refine g_i2l C dX5_digest_126 ?_
      obtain ⟨r27, σ28, hc26, hf⟩ := g_pbind hf
      refine g_callVv C (mX5_mix l0 D0 K0 h σ (r25).toInt64 hc26) gX5_digest_X5_mix rfl rfl rfl ddX5_mix ⟨(Nat.le_of_ble_eq_true rfl), (Nat.le_of_ble_eq_true rfl)⟩ rfl (Nat.le_of_ble_eq_true rfl) rfl rfl rfl (Nat.le_of_ble_eq_true rfl) dX5_digest_127 ?_
      refine g_iinc C 2 [1, 2, 0] dX5_digest_130 rfl ic_1 (Nat.le_of_ble_eq_true rfl) rfl ?_
      refine g_goto (tgt := 109) C dX5_digest_133 (by decide) ?_
      exact ih (v2 + (1 : Int32)) σ28 hf
set_option maxHeartbeats 4000000 in
set_option maxRecDepth 100000 in
theorem lX5_digest_91_ok {h : Nat → Nat} {X : Cx} {l0 : Launch} {D0 : va_G} {K0 : Nat → ClassId} {k142 : pS → Option (Int64 × pS)} {r : Int64} {u : pS} (C : Cok wM h X l0 ({ frames := 3, cells := 0, slots := 0, locals := 67 } : Room) D0 K0 cX5_digest 3 RX5 wsX5_digest) (hret : ∀ (pc : Nat) (lv' : List (Nat × Value)), decode cX5_digest pc = .ok (.lreturn, 1) → G wM h X pc lv' [.long r] u) (hk142 : ∀  (σ : pS), k142 σ = some (r, u) → G wM h X 142 [(0, .ref (h 0))] [] σ) : ∀ (F : Nat) (v1 : Int32) (σ : pS), lX5_digest_91 k142 F v1 σ = some (r, u) → G wM h X 91 [(0, .ref (h 0)), (1, .int v1)] [] σ := by
  intro F
  induction F with
  | zero => intro v1 σ hf; exact absurd hf (by simp [lX5_digest_91])
  | succ F ih =>
    intro v1 σ hf
    rw [lX5_digest_91.eq_2] at hf
    refine g_iload_n C 1 dX5_digest_91 rfl rfl ?_
    refine g_iconst C dX5_digest_92 ic_4 ?_
    refine g_icmp_ge (tgt := 142) hf C dX5_digest_93 (by decide) (fun hf => ?_) (fun hf => ?_)
    · refine g_lv [0] rfl ?_
      exact hk142 σ hf
    · refine g_aload_n C 0 dX5_digest_96 rfl rfl ?_
      refine g_aload_n C 0 dX5_digest_97 rfl rfl ?_
      refine g_getC (n := 5) C in_X5_digest_X5 (k := 8) lk_X5_digest_3 rfl (Nat.le_of_ble_eq_true rfl) rfl (Nat.le_of_ble_eq_true rfl) rfl dX5_digest_98 ?_
      refine g_iload_n C 1 dX5_digest_101 rfl rfl ?_
      refine g_iald hf C rfl (Nat.le_of_ble_eq_true rfl) dX5_digest_102 (fun hf => ?_)
      refine g_i2l C dX5_digest_103 ?_
      obtain ⟨r22, σ23, hc21, hf⟩ := g_pbind hf
      refine g_callVv C (mX5_mix l0 D0 K0 h σ ((pI σ 5 (v1).toNatClampNeg)).toInt64 hc21) gX5_digest_X5_mix rfl rfl rfl ddX5_mix ⟨(Nat.le_of_ble_eq_true rfl), (Nat.le_of_ble_eq_true rfl)⟩ rfl (Nat.le_of_ble_eq_true rfl) rfl rfl rfl (Nat.le_of_ble_eq_true rfl) dX5_digest_104 ?_
      refine g_iconst C dX5_digest_107 ic_0 ?_
      refine g_istore_n C [1, 2, 0] dX5_digest_108 rfl (Nat.le_of_ble_eq_true rfl) rfl ?_
      refine lX5_digest_109_ok v1 C hret (fun σ29 hf => ?_) FU (0 : Int32) σ23 hf
      refine g_iinc C 1 [1, 0] dX5_digest_136 rfl ic_1 (Nat.le_of_ble_eq_true rfl) rfl ?_
      refine g_goto (tgt := 91) C dX5_digest_139 (by decide) ?_
      exact ih (v1 + (1 : Int32)) σ29 hf
set_option maxHeartbeats 4000000 in
set_option maxRecDepth 100000 in
theorem mX5_digest (l0 : Launch) (D0 : va_G) (K0 : Nat → ClassId) (h : Nat → Nat) (σ : pS)  {r : Int64} {u : pS} (hf : fX5_digest σ = some (r, u)) : Met l0 yX5_digest wsX5_digest ({ frames := 3, cells := 0, slots := 0, locals := 67 } : Room) (va_Pc [.ref (h 0)] (pIn wM D0 K0 h σ)) (va_Ql (fun r' u' => r' = r ∧ u' = u) (pOut wM D0 K0 h) (pA wM h)) 0 0 (pA wM h) := by
  refine p_metL (lv := [(0, .ref (h 0))]) (by decide +kernel) rfl rfl (Nat.le_of_ble_eq_true rfl) rfl (fun X C hret => ?_)
  unfold fX5_digest at hf
  refine g_aload_n C 0 dX5_digest_0 rfl rfl ?_
  refine g_ldc2 C lk_X5_digest_0 dX5_digest_1 ?_
  refine g_putL C in_X5_digest_X5 (k := 29) lk_X5_digest_1 rfl (Nat.le_of_ble_eq_true rfl) rfl (Nat.le_of_ble_eq_true rfl) tyX5 tyX5_ok nmX5 rfl rfl rfl rfl dX5_digest_4 ?_
  refine g_lets hf (fun σ1 hf => ?_)
  refine g_iconst C dX5_digest_7 ic_0 ?_
  refine g_istore_n C [1, 0] dX5_digest_8 rfl (Nat.le_of_ble_eq_true rfl) rfl ?_
  refine lX5_digest_9_ok  C hret (fun σ7 hf => ?_) FU (0 : Int32) σ1 hf
  refine g_aload_n C 0 dX5_digest_31 rfl rfl ?_
  obtain ⟨r9, σ10, hc8, hf⟩ := g_pbind hf
  refine g_callVv C (mX5_mixVillage l0 D0 K0 h σ7 hc8) gX5_digest_X5_mixVillage rfl rfl rfl ddX5_mixVillage ⟨(Nat.le_of_ble_eq_true rfl), (Nat.le_of_ble_eq_true rfl)⟩ rfl (Nat.le_of_ble_eq_true rfl) rfl rfl rfl (Nat.le_of_ble_eq_true rfl) dX5_digest_32 ?_
  refine g_iconst C dX5_digest_35 ic_0 ?_
  refine g_istore_n C [1, 0] dX5_digest_36 rfl (Nat.le_of_ble_eq_true rfl) rfl ?_
  refine lX5_digest_37_ok  C hret (fun σ20 hf => ?_) FU (0 : Int32) σ10 hf
  refine g_iconst C dX5_digest_89 ic_0 ?_
  refine g_istore_n C [1, 0] dX5_digest_90 rfl (Nat.le_of_ble_eq_true rfl) rfl ?_
  refine lX5_digest_91_ok  C hret (fun σ30 hf => ?_) FU (0 : Int32) σ20 hf
  refine g_aload_n C 0 dX5_digest_142 rfl rfl ?_
  refine g_getL C in_X5_digest_X5 (k := 29) lk_X5_digest_1 rfl (Nat.le_of_ble_eq_true rfl) rfl (Nat.le_of_ble_eq_true rfl) rfl dX5_digest_143 ?_
  exact g_retlW hf hret dX5_digest_146
