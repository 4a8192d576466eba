/-! X5_readsDebt -/
theorem in_X5_readsDebt_X5 : ∀ q ∈ u_ws RX5 TX5 30, q ∈ wsX5_readsDebt := by decide +kernel
theorem lk_X5_readsDebt_0 : Cond.fieldLink RX5 125 "EmptyHouseModel" "readDebts" "I" ∈ wsX5_readsDebt := by decide +kernel
theorem lk_X5_readsDebt_1 : Cond.fieldLink RX5 100 "EmptyHouseModel" "readAt" "I" ∈ wsX5_readsDebt := by decide +kernel
theorem lk_X5_readsDebt_2 : Cond.fieldLink RX5 106 "EmptyHouseModel" "readNumber" "I" ∈ wsX5_readsDebt := by decide +kernel
theorem lk_X5_readsDebt_3 : Cond.fieldLink RX5 38 "EmptyHouseModel" "readDebt" "[I" ∈ wsX5_readsDebt := by decide +kernel
theorem ddX5_readsDebt : yX5_readsDebt.cls = RX5 ∧ yX5_readsDebt.cls ≠ "java/lang/invoke/MethodHandle" ∧ yX5_readsDebt.cls ≠ "java/lang/invoke/VarHandle" ∧ (parseMethodDescriptor yX5_readsDebt.desc).map (fun d => d.parameters.length) = some 1 := by decide +kernel
set_option maxHeartbeats 4000000 in
set_option maxRecDepth 100000 in
theorem mX5_readsDebt (l0 : Launch) (D0 : va_G) (K0 : Nat → ClassId) (h : Nat → Nat) (σ : pS) (a1 : Int32) {r : Int32} {u : pS} (hf : fX5_readsDebt σ a1 = some (r, u)) : Met l0 yX5_readsDebt wsX5_readsDebt ({ frames := 2, cells := 0, slots := 0, locals := 47 } : Room) (va_Pc [.ref (h 0), .int a1] (pIn wM D0 K0 h σ)) (va_Qi (fun r' u' => r' = r ∧ u' = u) (pOut wM D0 K0 h) (pA wM h)) 0 0 (pA wM h) := by
  refine p_metZ (lv := [(0, .ref (h 0)), (1, .int a1)]) (by decide +kernel) rfl rfl (Nat.le_of_ble_eq_true rfl) rfl (fun X C hret => ?_)
  unfold fX5_readsDebt at hf
  refine g_aload_n C 0 dX5_readsDebt_0 rfl rfl ?_
  refine g_getI C in_X5_readsDebt_X5 (k := 18) lk_X5_readsDebt_0 rfl (Nat.le_of_ble_eq_true rfl) rfl (Nat.le_of_ble_eq_true rfl) rfl dX5_readsDebt_1 ?_
  refine g_bipush C dX5_readsDebt_4 bp_8 ?_
  refine g_icmp_ne (tgt := 11) hf C dX5_readsDebt_6 (by decide) (fun hf => ?_) (fun hf => ?_)
  · refine g_aload_n C 0 dX5_readsDebt_11 rfl rfl ?_
    refine g_dup C dX5_readsDebt_12 rfl ?_
    refine g_getI C in_X5_readsDebt_X5 (k := 15) lk_X5_readsDebt_1 rfl (Nat.le_of_ble_eq_true rfl) rfl (Nat.le_of_ble_eq_true rfl) rfl dX5_readsDebt_13 ?_
    refine g_iconst C dX5_readsDebt_16 ic_1 ?_
    refine g_iadd C dX5_readsDebt_17 ?_
    refine g_putI C in_X5_readsDebt_X5 (k := 15) lk_X5_readsDebt_1 rfl (Nat.le_of_ble_eq_true rfl) rfl (Nat.le_of_ble_eq_true rfl) tyX5 tyX5_ok nmX5 rfl rfl rfl rfl dX5_readsDebt_18 ?_
    refine g_lets hf (fun σ1 hf => ?_)
    refine g_aload_n C 0 dX5_readsDebt_21 rfl rfl ?_
    refine g_iload_n C 1 dX5_readsDebt_22 rfl rfl ?_
    refine g_iconst C dX5_readsDebt_23 ic_m1 ?_
    obtain ⟨r3, σ4, hc2, hf⟩ := g_pbind hf
    refine g_callVi C (mX5_letter l0 D0 K0 h σ1 a1 (-1 : Int32) hc2) gX5_readsDebt_X5_letter rfl rfl rfl ddX5_letter ⟨(Nat.le_of_ble_eq_true rfl), (Nat.le_of_ble_eq_true rfl)⟩ rfl (Nat.le_of_ble_eq_true rfl) rfl rfl rfl (Nat.le_of_ble_eq_true rfl) dX5_readsDebt_24 ?_
    refine g_if_ne (tgt := 32) hf C dX5_readsDebt_27 (by decide) (fun hf => ?_) (fun hf => ?_)
    · refine g_aload_n C 0 dX5_readsDebt_32 rfl rfl ?_
      refine g_getI C in_X5_readsDebt_X5 (k := 16) lk_X5_readsDebt_2 rfl (Nat.le_of_ble_eq_true rfl) rfl (Nat.le_of_ble_eq_true rfl) rfl dX5_readsDebt_33 ?_
      refine g_leti hf (fun x5 hf => ?_)
      refine g_istore_n C [1, 2, 0] dX5_readsDebt_36 rfl (Nat.le_of_ble_eq_true rfl) rfl ?_
      refine g_aload_n C 0 dX5_readsDebt_37 rfl rfl ?_
      refine g_iload_n C 1 dX5_readsDebt_38 rfl rfl ?_
      refine g_iload_n C 2 dX5_readsDebt_39 rfl rfl ?_
      obtain ⟨r7, σ8, hc6, hf⟩ := g_pbind hf
      refine g_callVi C (mX5_letter l0 D0 K0 h σ4 a1 x5 hc6) gX5_readsDebt_X5_letter rfl rfl rfl ddX5_letter ⟨(Nat.le_of_ble_eq_true rfl), (Nat.le_of_ble_eq_true rfl)⟩ rfl (Nat.le_of_ble_eq_true rfl) rfl rfl rfl (Nat.le_of_ble_eq_true rfl) dX5_readsDebt_40 ?_
      refine g_if_ne (tgt := 48) hf C dX5_readsDebt_43 (by decide) (fun hf => ?_) (fun hf => ?_)
      · refine g_aload_n C 0 dX5_readsDebt_48 rfl rfl ?_
        refine g_getI C in_X5_readsDebt_X5 (k := 16) lk_X5_readsDebt_2 rfl (Nat.le_of_ble_eq_true rfl) rfl (Nat.le_of_ble_eq_true rfl) rfl dX5_readsDebt_49 ?_
        refine g_leti hf (fun x9 hf => ?_)
        refine g_istore_n C [1, 2, 3, 0] dX5_readsDebt_52 rfl (Nat.le_of_ble_eq_true rfl) rfl ?_
        refine g_aload_n C 0 dX5_readsDebt_53 rfl rfl ?_
        refine g_iload_n C 1 dX5_readsDebt_54 rfl rfl ?_
        refine g_bipush C dX5_readsDebt_55 bp_58 ?_
        obtain ⟨r11, σ12, hc10, hf⟩ := g_pbind hf
        refine g_callVi C (mX5_sign l0 D0 K0 h σ8 a1 (58 : Int32) hc10) gX5_readsDebt_X5_sign rfl rfl rfl ddX5_sign ⟨(Nat.le_of_ble_eq_true rfl), (Nat.le_of_ble_eq_true rfl)⟩ rfl (Nat.le_of_ble_eq_true rfl) rfl rfl rfl (Nat.le_of_ble_eq_true rfl) dX5_readsDebt_57 ?_
        refine g_if_eq (tgt := 74) hf C dX5_readsDebt_60 (by decide) (fun hf => ?_) (fun hf => ?_)
        · refine g_iconst C dX5_readsDebt_74 ic_0 ?_
          exact g_retzW hf (by decide) hret dX5_readsDebt_75
        · refine g_aload_n C 0 dX5_readsDebt_63 rfl rfl ?_
          refine g_iload_n C 1 dX5_readsDebt_64 rfl rfl ?_
          refine g_iconst C dX5_readsDebt_65 ic_1 ?_
          refine g_bipush C dX5_readsDebt_66 bp_99 ?_
          obtain ⟨r14, σ15, hc13, hf⟩ := g_pbind hf
          refine g_callVi C (mX5_number l0 D0 K0 h σ12 a1 (1 : Int32) (99 : Int32) hc13) gX5_readsDebt_X5_number rfl rfl rfl ddX5_number ⟨(Nat.le_of_ble_eq_true rfl), (Nat.le_of_ble_eq_true rfl)⟩ rfl (Nat.le_of_ble_eq_true rfl) rfl rfl rfl (Nat.le_of_ble_eq_true rfl) dX5_readsDebt_68 ?_
          refine g_if_ne (tgt := 76) hf C dX5_readsDebt_71 (by decide) (fun hf => ?_) (fun hf => ?_)
          · refine g_aload_n C 0 dX5_readsDebt_76 rfl rfl ?_
            refine g_getI C in_X5_readsDebt_X5 (k := 16) lk_X5_readsDebt_2 rfl (Nat.le_of_ble_eq_true rfl) rfl (Nat.le_of_ble_eq_true rfl) rfl dX5_readsDebt_77 ?_
            refine g_leti hf (fun x16 hf => ?_)
            refine g_istore C [1, 2, 3, 4, 0] dX5_readsDebt_80 (Nat.le_of_ble_eq_true rfl) rfl ?_
            refine g_aload_n C 0 dX5_readsDebt_82 rfl rfl ?_
            refine g_iload_n C 1 dX5_readsDebt_83 rfl rfl ?_
            refine g_bipush C dX5_readsDebt_84 bp_58 ?_
            obtain ⟨r18, σ19, hc17, hf⟩ := g_pbind hf
            refine g_callVi C (mX5_sign l0 D0 K0 h σ15 a1 (58 : Int32) hc17) gX5_readsDebt_X5_sign rfl rfl rfl ddX5_sign ⟨(Nat.le_of_ble_eq_true rfl), (Nat.le_of_ble_eq_true rfl)⟩ rfl (Nat.le_of_ble_eq_true rfl) rfl rfl rfl (Nat.le_of_ble_eq_true rfl) dX5_readsDebt_86 ?_
            refine g_if_eq (tgt := 100) hf C dX5_readsDebt_89 (by decide) (fun hf => ?_) (fun hf => ?_)
            · refine g_iconst C dX5_readsDebt_100 ic_0 ?_
              exact g_retzW hf (by decide) hret dX5_readsDebt_101
            · refine g_aload_n C 0 dX5_readsDebt_92 rfl rfl ?_
              refine g_iload_n C 1 dX5_readsDebt_93 rfl rfl ?_
              obtain ⟨r21, σ22, hc20, hf⟩ := g_pbind hf
              refine g_callVi C (mX5_figure l0 D0 K0 h σ19 a1 hc20) gX5_readsDebt_X5_figure rfl rfl rfl ddX5_figure ⟨(Nat.le_of_ble_eq_true rfl), (Nat.le_of_ble_eq_true rfl)⟩ rfl (Nat.le_of_ble_eq_true rfl) rfl rfl rfl (Nat.le_of_ble_eq_true rfl) dX5_readsDebt_94 ?_
              refine g_if_ne (tgt := 102) hf C dX5_readsDebt_97 (by decide) (fun hf => ?_) (fun hf => ?_)
              · refine g_iconst C dX5_readsDebt_102 ic_5 ?_
                refine g_aload_n C 0 dX5_readsDebt_103 rfl rfl ?_
                refine g_getI C in_X5_readsDebt_X5 (k := 18) lk_X5_readsDebt_0 rfl (Nat.le_of_ble_eq_true rfl) rfl (Nat.le_of_ble_eq_true rfl) rfl dX5_readsDebt_104 ?_
                refine g_imul C dX5_readsDebt_107 ?_
                refine g_leti hf (fun x23 hf => ?_)
                refine g_istore C [1, 3, 4, 5, 0] dX5_readsDebt_108 (Nat.le_of_ble_eq_true rfl) rfl ?_
                refine g_aload_n C 0 dX5_readsDebt_110 rfl rfl ?_
                refine g_getC (n := 10) C in_X5_readsDebt_X5 (k := 20) lk_X5_readsDebt_3 rfl (Nat.le_of_ble_eq_true rfl) rfl (Nat.le_of_ble_eq_true rfl) rfl dX5_readsDebt_111 ?_
                refine g_iload C 4 dX5_readsDebt_114 rfl ?_
                refine g_iload_n C 1 dX5_readsDebt_116 rfl rfl ?_
                refine g_iast hf C rfl (Nat.le_of_ble_eq_true rfl) dX5_readsDebt_117 (fun hf => ?_)
                refine g_lets hf (fun σ24 hf => ?_)
                refine g_aload_n C 0 dX5_readsDebt_118 rfl rfl ?_
                refine g_getC (n := 10) C in_X5_readsDebt_X5 (k := 20) lk_X5_readsDebt_3 rfl (Nat.le_of_ble_eq_true rfl) rfl (Nat.le_of_ble_eq_true rfl) rfl dX5_readsDebt_119 ?_
                refine g_iload C 4 dX5_readsDebt_122 rfl ?_
                refine g_iconst C dX5_readsDebt_124 ic_1 ?_
                refine g_iadd C dX5_readsDebt_125 ?_
                refine g_iload_n C 2 dX5_readsDebt_126 rfl rfl ?_
                refine g_iast hf C rfl (Nat.le_of_ble_eq_true rfl) dX5_readsDebt_127 (fun hf => ?_)
                refine g_lets hf (fun σ25 hf => ?_)
                refine g_aload_n C 0 dX5_readsDebt_128 rfl rfl ?_
                refine g_getC (n := 10) C in_X5_readsDebt_X5 (k := 20) lk_X5_readsDebt_3 rfl (Nat.le_of_ble_eq_true rfl) rfl (Nat.le_of_ble_eq_true rfl) rfl dX5_readsDebt_129 ?_
                refine g_iload C 4 dX5_readsDebt_132 rfl ?_
                refine g_iconst C dX5_readsDebt_134 ic_2 ?_
                refine g_iadd C dX5_readsDebt_135 ?_
                refine g_iload C 3 dX5_readsDebt_136 rfl ?_
                refine g_iast hf C rfl (Nat.le_of_ble_eq_true rfl) dX5_readsDebt_138 (fun hf => ?_)
                refine g_lets hf (fun σ26 hf => ?_)
                refine g_aload_n C 0 dX5_readsDebt_139 rfl rfl ?_
                refine g_getC (n := 10) C in_X5_readsDebt_X5 (k := 20) lk_X5_readsDebt_3 rfl (Nat.le_of_ble_eq_true rfl) rfl (Nat.le_of_ble_eq_true rfl) rfl dX5_readsDebt_140 ?_
                refine g_iload C 4 dX5_readsDebt_143 rfl ?_
                refine g_iconst C dX5_readsDebt_145 ic_3 ?_
                refine g_iadd C dX5_readsDebt_146 ?_
                refine g_aload_n C 0 dX5_readsDebt_147 rfl rfl ?_
                refine g_getI C in_X5_readsDebt_X5 (k := 16) lk_X5_readsDebt_2 rfl (Nat.le_of_ble_eq_true rfl) rfl (Nat.le_of_ble_eq_true rfl) rfl dX5_readsDebt_148 ?_
                refine g_iast hf C rfl (Nat.le_of_ble_eq_true rfl) dX5_readsDebt_151 (fun hf => ?_)
                refine g_lets hf (fun σ27 hf => ?_)
                refine g_aload_n C 0 dX5_readsDebt_152 rfl rfl ?_
                refine g_getC (n := 10) C in_X5_readsDebt_X5 (k := 20) lk_X5_readsDebt_3 rfl (Nat.le_of_ble_eq_true rfl) rfl (Nat.le_of_ble_eq_true rfl) rfl dX5_readsDebt_153 ?_
                refine g_iload C 4 dX5_readsDebt_156 rfl ?_
                refine g_iconst C dX5_readsDebt_158 ic_4 ?_
                refine g_iadd C dX5_readsDebt_159 ?_
                refine g_bipush C dX5_readsDebt_160 bp_m9 ?_
                refine g_iast hf C rfl (Nat.le_of_ble_eq_true rfl) dX5_readsDebt_162 (fun hf => ?_)
                refine g_lets hf (fun σ28 hf => ?_)
                refine g_aload_n C 0 dX5_readsDebt_163 rfl rfl ?_
                refine g_dup C dX5_readsDebt_164 rfl ?_
                refine g_getI C in_X5_readsDebt_X5 (k := 18) lk_X5_readsDebt_0 rfl (Nat.le_of_ble_eq_true rfl) rfl (Nat.le_of_ble_eq_true rfl) rfl dX5_readsDebt_165 ?_
                refine g_iconst C dX5_readsDebt_168 ic_1 ?_
                refine g_iadd C dX5_readsDebt_169 ?_
                refine g_putI C in_X5_readsDebt_X5 (k := 18) lk_X5_readsDebt_0 rfl (Nat.le_of_ble_eq_true rfl) rfl (Nat.le_of_ble_eq_true rfl) tyX5 tyX5_ok nmX5 rfl rfl rfl rfl dX5_readsDebt_170 ?_
                refine g_lets hf (fun σ29 hf => ?_)
                refine g_iconst C dX5_readsDebt_173 ic_1 ?_
                exact g_retzW hf (by decide) hret dX5_readsDebt_174
              · refine g_iconst C dX5_readsDebt_100 ic_0 ?_
                exact g_retzW hf (by decide) hret dX5_readsDebt_101
          · refine g_iconst C dX5_readsDebt_74 ic_0 ?_
            exact g_retzW hf (by decide) hret dX5_readsDebt_75
      · refine g_iconst C dX5_readsDebt_46 ic_0 ?_
        exact g_retzW hf (by decide) hret dX5_readsDebt_47
    · refine g_iconst C dX5_readsDebt_30 ic_0 ?_
      exact g_retzW hf (by decide) hret dX5_readsDebt_31
  · refine g_iconst C dX5_readsDebt_9 ic_0 ?_
    exact g_retzW hf (by decide) hret dX5_readsDebt_10
/-! X5_faultOf -/
theorem in_X5_faultOf_X5 : ∀ q ∈ u_ws RX5 TX5 30, q ∈ wsX5_faultOf := by decide +kernel
theorem lk_X5_faultOf_0 : Cond.fieldLink RX5 100 "EmptyHouseModel" "readAt" "I" ∈ wsX5_faultOf := by decide +kernel
theorem lk_X5_faultOf_1 : Cond.fieldLink RX5 109 "EmptyHouseModel" "readPeople" "I" ∈ wsX5_faultOf := by decide +kernel
theorem lk_X5_faultOf_2 : Cond.fieldLink RX5 125 "EmptyHouseModel" "readDebts" "I" ∈ wsX5_faultOf := by decide +kernel
theorem lk_X5_faultOf_3 : Cond.fieldLink RX5 22 "EmptyHouseModel" "textSizes" "[I" ∈ wsX5_faultOf := by decide +kernel
theorem ddX5_faultOf : yX5_faultOf.cls = RX5 ∧ yX5_faultOf.cls ≠ "java/lang/invoke/MethodHandle" ∧ yX5_faultOf.cls ≠ "java/lang/invoke/VarHandle" ∧ (parseMethodDescriptor yX5_faultOf.desc).map (fun d => d.parameters.length) = some 1 := by decide +kernel
set_option maxHeartbeats 4000000 in
set_option maxRecDepth 100000 in
theorem lX5_faultOf_15_ok {h : Nat → Nat} {X : Cx} {l0 : Launch} {D0 : va_G} {K0 : Nat → ClassId} (p1 : Int32) {k96 : pS → Option (Int32 × pS)} {r : Int32} {u : pS} (C : Cok wM h X l0 ({ frames := 3, cells := 0, slots := 0, locals := 73 } : Room) D0 K0 cX5_faultOf 3 RX5 wsX5_faultOf) (hret : ∀ (pc : Nat) (lv' : List (Nat × Value)), decode cX5_faultOf pc = .ok (.ireturn, 1) → G wM h X pc lv' [.int r] u) (hk96 : ∀  (σ : pS), k96 σ = some (r, u) → G wM h X 96 [] [] σ) : ∀ (F : Nat) (σ : pS), lX5_faultOf_15 p1 k96 F σ = some (r, u) → G wM h X 15 [(0, .ref (h 0)), (1, .int p1)] [] σ := by
  intro F
  induction F with
  | zero => intro σ hf; exact absurd hf (by simp [lX5_faultOf_15])
  | succ F ih =>
    intro σ hf
    rw [lX5_faultOf_15.eq_2] at hf
    refine g_aload_n C 0 dX5_faultOf_15 rfl rfl ?_
    refine g_getI C in_X5_faultOf_X5 (k := 15) lk_X5_faultOf_0 rfl (Nat.le_of_ble_eq_true rfl) rfl (Nat.le_of_ble_eq_true rfl) rfl dX5_faultOf_16 ?_
    refine g_aload_n C 0 dX5_faultOf_19 rfl rfl ?_
    refine g_getC (n := 5) C in_X5_faultOf_X5 (k := 8) lk_X5_faultOf_3 rfl (Nat.le_of_ble_eq_true rfl) rfl (Nat.le_of_ble_eq_true rfl) rfl dX5_faultOf_20 ?_
    refine g_iload_n C 1 dX5_faultOf_23 rfl rfl ?_
    refine g_iald hf C rfl (Nat.le_of_ble_eq_true rfl) dX5_faultOf_24 (fun hf => ?_)
    refine g_icmp_ge (tgt := 96) hf C dX5_faultOf_25 (by decide) (fun hf => ?_) (fun hf => ?_)
    · refine g_lv [] rfl ?_
      exact hk96 σ hf
    · refine g_aload_n C 0 dX5_faultOf_28 rfl rfl ?_
      refine g_iload_n C 1 dX5_faultOf_29 rfl rfl ?_
      refine g_aload_n C 0 dX5_faultOf_30 rfl rfl ?_
      refine g_getI C in_X5_faultOf_X5 (k := 15) lk_X5_faultOf_0 rfl (Nat.le_of_ble_eq_true rfl) rfl (Nat.le_of_ble_eq_true rfl) rfl dX5_faultOf_31 ?_
      obtain ⟨r5, hc4, hf⟩ := g_bind hf
      refine g_callVi C (mX5_byteAt l0 D0 K0 h σ p1 (pI σ 0 15) hc4) gX5_faultOf_X5_byteAt rfl rfl rfl ddX5_byteAt ⟨(Nat.le_of_ble_eq_true rfl), (Nat.le_of_ble_eq_true rfl)⟩ rfl (Nat.le_of_ble_eq_true rfl) rfl rfl rfl (Nat.le_of_ble_eq_true rfl) dX5_faultOf_34 ?_
      refine g_istore_n C [1, 2, 0] dX5_faultOf_37 rfl (Nat.le_of_ble_eq_true rfl) rfl ?_
      refine g_iload_n C 2 dX5_faultOf_38 rfl rfl ?_
      refine g_bipush C dX5_faultOf_39 bp_32 ?_
      refine g_icmp_ne (tgt := 57) hf C dX5_faultOf_41 (by decide) (fun hf => ?_) (fun hf => ?_)
      · refine g_iload_n C 2 dX5_faultOf_57 rfl rfl ?_
        refine g_bipush C dX5_faultOf_58 bp_112 ?_
        refine g_icmp_ne (tgt := 74) hf C dX5_faultOf_60 (by decide) (fun hf => ?_) (fun hf => ?_)
        · refine g_iload_n C 2 dX5_faultOf_74 rfl rfl ?_
          refine g_bipush C dX5_faultOf_75 bp_100 ?_
          refine g_icmp_ne (tgt := 88) hf C dX5_faultOf_77 (by decide) (fun hf => ?_) (fun hf => ?_)
          · refine g_aload_n C 0 dX5_faultOf_88 rfl rfl ?_
            refine g_getI C in_X5_faultOf_X5 (k := 15) lk_X5_faultOf_0 rfl (Nat.le_of_ble_eq_true rfl) rfl (Nat.le_of_ble_eq_true rfl) rfl dX5_faultOf_89 ?_
            exact g_retiW hf hret dX5_faultOf_92
          · refine g_aload_n C 0 dX5_faultOf_80 rfl rfl ?_
            refine g_iload_n C 1 dX5_faultOf_81 rfl rfl ?_
            obtain ⟨r7, σ8, hc6, hf⟩ := g_pbind hf
            refine g_callVi C (mX5_readsDebt l0 D0 K0 h σ p1 hc6) gX5_faultOf_X5_readsDebt rfl rfl rfl ddX5_readsDebt ⟨(Nat.le_of_ble_eq_true rfl), (Nat.le_of_ble_eq_true rfl)⟩ rfl (Nat.le_of_ble_eq_true rfl) rfl rfl rfl (Nat.le_of_ble_eq_true rfl) dX5_faultOf_82 ?_
            refine g_if_ne (tgt := 93) hf C dX5_faultOf_85 (by decide) (fun hf => ?_) (fun hf => ?_)
            · refine g_goto (tgt := 15) C dX5_faultOf_93 (by decide) ?_
              refine g_lv [0, 1] rfl ?_
              exact ih σ8 hf
            · refine g_aload_n C 0 dX5_faultOf_88 rfl rfl ?_
              refine g_getI C in_X5_faultOf_X5 (k := 15) lk_X5_faultOf_0 rfl (Nat.le_of_ble_eq_true rfl) rfl (Nat.le_of_ble_eq_true rfl) rfl dX5_faultOf_89 ?_
              exact g_retiW hf hret dX5_faultOf_92
        · refine g_aload_n C 0 dX5_faultOf_63 rfl rfl ?_
          refine g_iload_n C 1 dX5_faultOf_64 rfl rfl ?_
          obtain ⟨r10, σ11, hc9, hf⟩ := g_pbind hf
          refine g_callVi C (mX5_readsOne l0 D0 K0 h σ p1 hc9) gX5_faultOf_X5_readsOne rfl rfl rfl ddX5_readsOne ⟨(Nat.le_of_ble_eq_true rfl), (Nat.le_of_ble_eq_true rfl)⟩ rfl (Nat.le_of_ble_eq_true rfl) rfl rfl rfl (Nat.le_of_ble_eq_true rfl) dX5_faultOf_65 ?_
          refine g_if_eq (tgt := 88) hf C dX5_faultOf_68 (by decide) (fun hf => ?_) (fun hf => ?_)
          · refine g_aload_n C 0 dX5_faultOf_88 rfl rfl ?_
            refine g_getI C in_X5_faultOf_X5 (k := 15) lk_X5_faultOf_0 rfl (Nat.le_of_ble_eq_true rfl) rfl (Nat.le_of_ble_eq_true rfl) rfl dX5_faultOf_89 ?_
            exact g_retiW hf hret dX5_faultOf_92
          · refine g_goto (tgt := 93) C dX5_faultOf_71 (by decide) ?_
            refine g_goto (tgt := 15) C dX5_faultOf_93 (by decide) ?_
            refine g_lv [0, 1] rfl ?_
            exact ih σ11 hf
      · refine g_aload_n C 0 dX5_faultOf_44 rfl rfl ?_
        refine g_dup C dX5_faultOf_45 rfl ?_
        refine g_getI C in_X5_faultOf_X5 (k := 15) lk_X5_faultOf_0 rfl (Nat.le_of_ble_eq_true rfl) rfl (Nat.le_of_ble_eq_true rfl) rfl dX5_faultOf_46 ?_
        refine g_iconst C dX5_faultOf_49 ic_1 ?_
        refine g_iadd C dX5_faultOf_50 ?_
        refine g_putI C in_X5_faultOf_X5 (k := 15) lk_X5_faultOf_0 rfl (Nat.le_of_ble_eq_true rfl) rfl (Nat.le_of_ble_eq_true rfl) tyX5 tyX5_ok nmX5 rfl rfl rfl rfl dX5_faultOf_51 ?_
        refine g_lets hf (fun σ12 hf => ?_)
        refine g_goto (tgt := 93) C dX5_faultOf_54 (by decide) ?_
        refine g_goto (tgt := 15) C dX5_faultOf_93 (by decide) ?_
        refine g_lv [0, 1] rfl ?_
        exact ih σ12 hf
set_option maxHeartbeats 4000000 in
set_option maxRecDepth 100000 in
theorem mX5_faultOf (l0 : Launch) (D0 : va_G) (K0 : Nat → ClassId) (h : Nat → Nat) (σ : pS) (a1 : Int32) {r : Int32} {u : pS} (hf : fX5_faultOf σ a1 = some (r, u)) : Met l0 yX5_faultOf wsX5_faultOf ({ frames := 3, cells := 0, slots := 0, locals := 73 } : Room) (va_Pc [.ref (h 0), .int a1] (pIn wM D0 K0 h σ)) (va_Qi (fun r' u' => r' = r ∧ u' = u) (pOut wM D0 K0 h) (pA wM h)) 0 0 (pA wM h) := by
  refine p_metI (lv := [(0, .ref (h 0)), (1, .int a1)]) (by decide +kernel) rfl rfl (Nat.le_of_ble_eq_true rfl) rfl (fun X C hret => ?_)
  unfold fX5_faultOf at hf
  refine g_aload_n C 0 dX5_faultOf_0 rfl rfl ?_
  refine g_iconst C dX5_faultOf_1 ic_0 ?_
  refine g_putI C in_X5_faultOf_X5 (k := 15) lk_X5_faultOf_0 rfl (Nat.le_of_ble_eq_true rfl) rfl (Nat.le_of_ble_eq_true rfl) tyX5 tyX5_ok nmX5 rfl rfl rfl rfl dX5_faultOf_2 ?_
  refine g_lets hf (fun σ1 hf => ?_)
  refine g_aload_n C 0 dX5_faultOf_5 rfl rfl ?_
  refine g_iconst C dX5_faultOf_6 ic_0 ?_
  refine g_putI C in_X5_faultOf_X5 (k := 17) lk_X5_faultOf_1 rfl (Nat.le_of_ble_eq_true rfl) rfl (Nat.le_of_ble_eq_true rfl) tyX5 tyX5_ok nmX5 rfl rfl rfl rfl dX5_faultOf_7 ?_
  refine g_lets hf (fun σ2 hf => ?_)
  refine g_aload_n C 0 dX5_faultOf_10 rfl rfl ?_
  refine g_iconst C dX5_faultOf_11 ic_0 ?_
  refine g_putI C in_X5_faultOf_X5 (k := 18) lk_X5_faultOf_2 rfl (Nat.le_of_ble_eq_true rfl) rfl (Nat.le_of_ble_eq_true rfl) tyX5 tyX5_ok nmX5 rfl rfl rfl rfl dX5_faultOf_12 ?_
  refine g_lets hf (fun σ3 hf => ?_)
  refine lX5_faultOf_15_ok a1 C hret (fun σ13 hf => ?_) FU σ3 hf
  refine g_bipush C dX5_faultOf_96 bp_m9 ?_
  exact g_retiW hf hret dX5_faultOf_98
/-! X5_fault -/
theorem in_X5_fault_X5 : ∀ q ∈ u_ws RX5 TX5 30, q ∈ wsX5_fault := by decide +kernel
theorem lk_X5_fault_0 : Cond.fieldLink RX5 22 "EmptyHouseModel" "textSizes" "[I" ∈ wsX5_fault := by decide +kernel
theorem ddX5_fault : yX5_fault.cls = RX5 ∧ yX5_fault.cls ≠ "java/lang/invoke/MethodHandle" ∧ yX5_fault.cls ≠ "java/lang/invoke/VarHandle" ∧ (parseMethodDescriptor yX5_fault.desc).map (fun d => d.parameters.length) = some 1 := by decide +kernel
set_option maxHeartbeats 4000000 in
set_option maxRecDepth 100000 in
theorem mX5_fault (l0 : Launch) (D0 : va_G) (K0 : Nat → ClassId) (h : Nat → Nat) (σ : pS) (a1 : Int32) {r : Int32} {u : pS} (hf : fX5_fault σ a1 = some (r, u)) : Met l0 yX5_fault wsX5_fault ({ frames := 4, cells := 0, slots := 0, locals := 95 } : Room) (va_Pc [.ref (h 0), .int a1] (pIn wM D0 K0 h σ)) (va_Qi (fun r' u' => r' = r ∧ u' = u) (pOut wM D0 K0 h) (pA wM h)) 0 0 (pA wM h) := by
  refine p_metI (lv := [(0, .ref (h 0)), (1, .int a1)]) (by decide +kernel) rfl rfl (Nat.le_of_ble_eq_true rfl) rfl (fun X C hret => ?_)
  unfold fX5_fault at hf
  refine g_iload_n C 1 dX5_fault_0 rfl rfl ?_
  obtain ⟨r2, hc1, hf⟩ := g_bind hf
  refine g_callSi C (mX5_isText l0 D0 K0 h σ a1 hc1) gX5_fault_X5_isText rfl rfl rfl ddX5_isText ⟨(Nat.le_of_ble_eq_true rfl), (Nat.le_of_ble_eq_true rfl)⟩ rfl rfl (Nat.le_of_ble_eq_true rfl) dX5_fault_1 ?_
  refine g_if_ne (tgt := 9) hf C dX5_fault_4 (by decide) (fun hf => ?_) (fun hf => ?_)
  · refine g_aload_n C 0 dX5_fault_9 rfl rfl ?_
    refine g_getC (n := 5) C in_X5_fault_X5 (k := 8) lk_X5_fault_0 rfl (Nat.le_of_ble_eq_true rfl) rfl (Nat.le_of_ble_eq_true rfl) rfl dX5_fault_10 ?_
    refine g_iload_n C 1 dX5_fault_13 rfl rfl ?_
    refine g_iald hf C rfl (Nat.le_of_ble_eq_true rfl) dX5_fault_14 (fun hf => ?_)
    refine g_if_ge (tgt := 26) hf C dX5_fault_15 (by decide) (fun hf => ?_) (fun hf => ?_)
    · refine g_aload_n C 0 dX5_fault_26 rfl rfl ?_
      refine g_iload_n C 1 dX5_fault_27 rfl rfl ?_
      obtain ⟨r4, σ5, hc3, hf⟩ := g_pbind hf
      refine g_callVi C (mX5_faultOf l0 D0 K0 h σ a1 hc3) gX5_fault_X5_faultOf rfl rfl rfl ddX5_faultOf ⟨(Nat.le_of_ble_eq_true rfl), (Nat.le_of_ble_eq_true rfl)⟩ rfl (Nat.le_of_ble_eq_true rfl) rfl rfl rfl (Nat.le_of_ble_eq_true rfl) dX5_fault_28 ?_
      exact g_retiW hf hret dX5_fault_31
    · refine g_aload_n C 0 dX5_fault_18 rfl rfl ?_
      refine g_iconst C dX5_fault_19 ic_1 ?_
      obtain ⟨r7, σ8, hc6, hf⟩ := g_pbind hf
      refine g_callVi C (mX5_meets l0 D0 K0 h σ (1 : Int32) hc6) gX5_fault_X5_meets rfl rfl rfl ddX5_meets ⟨(Nat.le_of_ble_eq_true rfl), (Nat.le_of_ble_eq_true rfl)⟩ rfl (Nat.le_of_ble_eq_true rfl) rfl rfl rfl (Nat.le_of_ble_eq_true rfl) dX5_fault_20 ?_
      refine g_goto (tgt := 31) C dX5_fault_23 (by decide) ?_
      exact g_retiW hf hret dX5_fault_31
  · refine g_iconst C dX5_fault_7 ic_m1 ?_
    exact g_retiW hf hret dX5_fault_8
/-! X5_village -/
theorem in_X5_village_X5 : ∀ q ∈ u_ws RX5 TX5 30, q ∈ wsX5_village := by decide +kernel
theorem lk_X5_village_0 : Cond.fieldLink RX5 22 "EmptyHouseModel" "textSizes" "[I" ∈ wsX5_village := by decide +kernel
theorem lk_X5_village_1 : Cond.fieldLink RX5 109 "EmptyHouseModel" "readPeople" "I" ∈ wsX5_village := by decide +kernel
theorem lk_X5_village_2 : Cond.fieldLink RX5 140 "EmptyHouseModel" "n" "I" ∈ wsX5_village := by decide +kernel
theorem lk_X5_village_3 : Cond.fieldLink RX5 125 "EmptyHouseModel" "readDebts" "I" ∈ wsX5_village := by decide +kernel
theorem lk_X5_village_4 : Cond.fieldLink RX5 143 "EmptyHouseModel" "debtMany" "I" ∈ wsX5_village := by decide +kernel
theorem lk_X5_village_5 : Cond.fieldLink RX5 146 "EmptyHouseModel" "lawNow" "I" ∈ wsX5_village := by decide +kernel
theorem lk_X5_village_6 : Cond.fieldLink RX5 29 "EmptyHouseModel" "people" "[I" ∈ wsX5_village := by decide +kernel
theorem lk_X5_village_7 : Cond.fieldLink RX5 35 "EmptyHouseModel" "readOne" "[I" ∈ wsX5_village := by decide +kernel
theorem lk_X5_village_8 : Cond.fieldLink RX5 32 "EmptyHouseModel" "debts" "[I" ∈ wsX5_village := by decide +kernel
theorem lk_X5_village_9 : Cond.fieldLink RX5 38 "EmptyHouseModel" "readDebt" "[I" ∈ wsX5_village := by decide +kernel
theorem lk_X5_village_10 : Cond.fieldLink RX5 58 "EmptyHouseModel" "isKept" "[Z" ∈ wsX5_village := by decide +kernel
theorem ddX5_village : yX5_village.cls = RX5 ∧ yX5_village.cls ≠ "java/lang/invoke/MethodHandle" ∧ yX5_village.cls ≠ "java/lang/invoke/VarHandle" ∧ (parseMethodDescriptor yX5_village.desc).map (fun d => d.parameters.length) = some 1 := by decide +kernel
set_option maxHeartbeats 4000000 in
set_option maxRecDepth 100000 in
theorem lX5_village_60_ok {h : Nat → Nat} {X : Cx} {l0 : Launch} {D0 : va_G} {K0 : Nat → ClassId} {k84 : pS → Option (Int32 × pS)} {r : Int32} {u : pS} (C : Cok wM h X l0 ({ frames := 4, cells := 0, slots := 0, locals := 95 } : Room) D0 K0 cX5_village 3 RX5 wsX5_village) (hret : ∀ (pc : Nat) (lv' : List (Nat × Value)), decode cX5_village pc = .ok (.ireturn, 1) → G wM h X pc lv' [.int r] u) (hk84 : ∀  (σ : pS), k84 σ = some (r, u) → G wM h X 84 [(0, .ref (h 0))] [] σ) : ∀ (F : Nat) (v2 : Int32) (σ : pS), lX5_village_60 k84 F v2 σ = some (r, u) → G wM h X 60 [(0, .ref (h 0)), (2, .int v2)] [] σ := by
  intro F
  induction F with
  | zero => intro v2 σ hf; exact absurd hf (by simp [lX5_village_60])
  | succ F ih =>
    intro v2 σ hf
    rw [lX5_village_60.eq_2] at hf
    refine g_iload_n C 1 dX5_village_60 rfl rfl ?_
    refine g_bipush C dX5_village_61 bp_24 ?_
    refine g_icmp_ge (tgt := 84) hf C dX5_village_63 (by decide) (fun hf => ?_) (fun hf => ?_)
    · refine g_lv [0] rfl ?_
      exact hk84 σ hf
    · refine g_aload_n C 0 dX5_village_66 rfl rfl ?_
      refine g_getC (n := 7) C in_X5_village_X5 (k := 11) lk_X5_village_6 rfl (Nat.le_of_ble_eq_true rfl) rfl (Nat.le_of_ble_eq_true rfl) rfl dX5_village_67 ?_
      refine g_iload_n C 1 dX5_village_70 rfl rfl ?_
      refine g_aload_n C 0 dX5_village_71 rfl rfl ?_
      refine g_getC (n := 9) C in_X5_village_X5 (k := 19) lk_X5_village_7 rfl (Nat.le_of_ble_eq_true rfl) rfl (Nat.le_of_ble_eq_true rfl) rfl dX5_village_72 ?_
      refine g_iload_n C 1 dX5_village_75 rfl rfl ?_
      refine g_iald hf C rfl (Nat.le_of_ble_eq_true rfl) dX5_village_76 (fun hf => ?_)
      refine g_iast hf C rfl (Nat.le_of_ble_eq_true rfl) dX5_village_77 (fun hf => ?_)
      refine g_lets hf (fun σ9 hf => ?_)
      refine g_iinc C 1 [1, 0] dX5_village_78 rfl ic_1 (Nat.le_of_ble_eq_true rfl) rfl ?_
      refine g_goto (tgt := 60) C dX5_village_81 (by decide) ?_
      exact ih (v2 + (1 : Int32)) σ9 hf
set_option maxHeartbeats 4000000 in
set_option maxRecDepth 100000 in
theorem lX5_village_86_ok {h : Nat → Nat} {X : Cx} {l0 : Launch} {D0 : va_G} {K0 : Nat → ClassId} {k110 : pS → Option (Int32 × pS)} {r : Int32} {u : pS} (C : Cok wM h X l0 ({ frames := 4, cells := 0, slots := 0, locals := 95 } : Room) D0 K0 cX5_village 3 RX5 wsX5_village) (hret : ∀ (pc : Nat) (lv' : List (Nat × Value)), decode cX5_village pc = .ok (.ireturn, 1) → G wM h X pc lv' [.int r] u) (hk110 : ∀  (σ : pS), k110 σ = some (r, u) → G wM h X 110 [(0, .ref (h 0))] [] σ) : ∀ (F : Nat) (v2 : Int32) (σ : pS), lX5_village_86 k110 F v2 σ = some (r, u) → G wM h X 86 [(0, .ref (h 0)), (2, .int v2)] [] σ := by
  intro F
  induction F with
  | zero => intro v2 σ hf; exact absurd hf (by simp [lX5_village_86])
  | succ F ih =>
    intro v2 σ hf
    rw [lX5_village_86.eq_2] at hf
    refine g_iload_n C 1 dX5_village_86 rfl rfl ?_
    refine g_bipush C dX5_village_87 bp_40 ?_
    refine g_icmp_ge (tgt := 110) hf C dX5_village_89 (by decide) (fun hf => ?_) (fun hf => ?_)
    · refine g_lv [0] rfl ?_
      exact hk110 σ hf
    · refine g_aload_n C 0 dX5_village_92 rfl rfl ?_
      refine g_getC (n := 8) C in_X5_village_X5 (k := 13) lk_X5_village_8 rfl (Nat.le_of_ble_eq_true rfl) rfl (Nat.le_of_ble_eq_true rfl) rfl dX5_village_93 ?_
      refine g_iload_n C 1 dX5_village_96 rfl rfl ?_
      refine g_aload_n C 0 dX5_village_97 rfl rfl ?_
      refine g_getC (n := 10) C in_X5_village_X5 (k := 20) lk_X5_village_9 rfl (Nat.le_of_ble_eq_true rfl) rfl (Nat.le_of_ble_eq_true rfl) rfl dX5_village_98 ?_
      refine g_iload_n C 1 dX5_village_101 rfl rfl ?_
      refine g_iald hf C rfl (Nat.le_of_ble_eq_true rfl) dX5_village_102 (fun hf => ?_)
      refine g_iast hf C rfl (Nat.le_of_ble_eq_true rfl) dX5_village_103 (fun hf => ?_)
      refine g_lets hf (fun σ11 hf => ?_)
      refine g_iinc C 1 [1, 0] dX5_village_104 rfl ic_1 (Nat.le_of_ble_eq_true rfl) rfl ?_
      refine g_goto (tgt := 86) C dX5_village_107 (by decide) ?_
      exact ih (v2 + (1 : Int32)) σ11 hf
set_option maxHeartbeats 4000000 in
set_option maxRecDepth 100000 in
theorem lX5_village_112_ok {h : Nat → Nat} {X : Cx} {l0 : Launch} {D0 : va_G} {K0 : Nat → ClassId} {k130 : pS → Option (Int32 × pS)} {r : Int32} {u : pS} (C : Cok wM h X l0 ({ frames := 4, cells := 0, slots := 0, locals := 95 } : Room) D0 K0 cX5_village 3 RX5 wsX5_village) (hret : ∀ (pc : Nat) (lv' : List (Nat × Value)), decode cX5_village pc = .ok (.ireturn, 1) → G wM h X pc lv' [.int r] u) (hk130 : ∀  (σ : pS), k130 σ = some (r, u) → G wM h X 130 [(0, .ref (h 0))] [] σ) : ∀ (F : Nat) (v2 : Int32) (σ : pS), lX5_village_112 k130 F v2 σ = some (r, u) → G wM h X 112 [(0, .ref (h 0)), (2, .int v2)] [] σ := by
  intro F
  induction F with
  | zero => intro v2 σ hf; exact absurd hf (by simp [lX5_village_112])
  | succ F ih =>
    intro v2 σ hf
    rw [lX5_village_112.eq_2] at hf
    refine g_iload_n C 1 dX5_village_112 rfl rfl ?_
    refine g_iconst C dX5_village_113 ic_3 ?_
    refine g_icmp_ge (tgt := 130) hf C dX5_village_114 (by decide) (fun hf => ?_) (fun hf => ?_)
    · refine g_lv [0] rfl ?_
      exact hk130 σ hf
    · refine g_aload_n C 0 dX5_village_117 rfl rfl ?_
      refine g_getC (n := 16) C in_X5_village_X5 (k := 27) lk_X5_village_10 rfl (Nat.le_of_ble_eq_true rfl) rfl (Nat.le_of_ble_eq_true rfl) rfl dX5_village_118 ?_
      refine g_iload_n C 1 dX5_village_121 rfl rfl ?_
      refine g_iconst C dX5_village_122 ic_0 ?_
      refine g_zast hf C rfl (Nat.le_of_ble_eq_true rfl) dX5_village_123 (fun hf => ?_)
      refine g_lets hf (fun σ13 hf => ?_)
      refine g_iinc C 1 [1, 0] dX5_village_124 rfl ic_1 (Nat.le_of_ble_eq_true rfl) rfl ?_
      refine g_goto (tgt := 112) C dX5_village_127 (by decide) ?_
      exact ih (v2 + (1 : Int32)) σ13 hf
set_option maxHeartbeats 4000000 in
set_option maxRecDepth 100000 in
theorem mX5_village (l0 : Launch) (D0 : va_G) (K0 : Nat → ClassId) (h : Nat → Nat) (σ : pS) (a1 : Int32) {r : Int32} {u : pS} (hf : fX5_village σ a1 = some (r, u)) : Met l0 yX5_village wsX5_village ({ frames := 4, cells := 0, slots := 0, locals := 95 } : Room) (va_Pc [.ref (h 0), .int a1] (pIn wM D0 K0 h σ)) (va_Qi (fun r' u' => r' = r ∧ u' = u) (pOut wM D0 K0 h) (pA wM h)) 0 0 (pA wM h) := by
  refine p_metI (lv := [(0, .ref (h 0)), (1, .int a1)]) (by decide +kernel) rfl rfl (Nat.le_of_ble_eq_true rfl) rfl (fun X C hret => ?_)
  unfold fX5_village at hf
  refine g_iload_n C 1 dX5_village_0 rfl rfl ?_
  obtain ⟨r2, hc1, hf⟩ := g_bind hf
  refine g_callSi C (mX5_isText l0 D0 K0 h σ a1 hc1) gX5_village_X5_isText rfl rfl rfl ddX5_isText ⟨(Nat.le_of_ble_eq_true rfl), (Nat.le_of_ble_eq_true rfl)⟩ rfl rfl (Nat.le_of_ble_eq_true rfl) dX5_village_1 ?_
  refine g_if_ne (tgt := 9) hf C dX5_village_4 (by decide) (fun hf => ?_) (fun hf => ?_)
  · refine g_aload_n C 0 dX5_village_9 rfl rfl ?_
    refine g_getC (n := 5) C in_X5_village_X5 (k := 8) lk_X5_village_0 rfl (Nat.le_of_ble_eq_true rfl) rfl (Nat.le_of_ble_eq_true rfl) rfl dX5_village_10 ?_
    refine g_iload_n C 1 dX5_village_13 rfl rfl ?_
    refine g_iald hf C rfl (Nat.le_of_ble_eq_true rfl) dX5_village_14 (fun hf => ?_)
    refine g_if_ge (tgt := 24) hf C dX5_village_15 (by decide) (fun hf => ?_) (fun hf => ?_)
    · refine g_aload_n C 0 dX5_village_24 rfl rfl ?_
      refine g_iload_n C 1 dX5_village_25 rfl rfl ?_
      obtain ⟨r4, σ5, hc3, hf⟩ := g_pbind hf
      refine g_callVi C (mX5_faultOf l0 D0 K0 h σ a1 hc3) gX5_village_X5_faultOf rfl rfl rfl ddX5_faultOf ⟨(Nat.le_of_ble_eq_true rfl), (Nat.le_of_ble_eq_true rfl)⟩ rfl (Nat.le_of_ble_eq_true rfl) rfl rfl rfl (Nat.le_of_ble_eq_true rfl) dX5_village_26 ?_
      refine g_bipush C dX5_village_29 bp_m9 ?_
      refine g_icmp_eq (tgt := 37) hf C dX5_village_31 (by decide) (fun hf => ?_) (fun hf => ?_)
      · refine g_aload_n C 0 dX5_village_37 rfl rfl ?_
        refine g_aload_n C 0 dX5_village_38 rfl rfl ?_
        refine g_getI C in_X5_village_X5 (k := 17) lk_X5_village_1 rfl (Nat.le_of_ble_eq_true rfl) rfl (Nat.le_of_ble_eq_true rfl) rfl dX5_village_39 ?_
        refine g_putI C in_X5_village_X5 (k := 10) lk_X5_village_2 rfl (Nat.le_of_ble_eq_true rfl) rfl (Nat.le_of_ble_eq_true rfl) tyX5 tyX5_ok nmX5 rfl rfl rfl rfl dX5_village_42 ?_
        refine g_lets hf (fun σ6 hf => ?_)
        refine g_aload_n C 0 dX5_village_45 rfl rfl ?_
        refine g_aload_n C 0 dX5_village_46 rfl rfl ?_
        refine g_getI C in_X5_village_X5 (k := 18) lk_X5_village_3 rfl (Nat.le_of_ble_eq_true rfl) rfl (Nat.le_of_ble_eq_true rfl) rfl dX5_village_47 ?_
        refine g_putI C in_X5_village_X5 (k := 12) lk_X5_village_4 rfl (Nat.le_of_ble_eq_true rfl) rfl (Nat.le_of_ble_eq_true rfl) tyX5 tyX5_ok nmX5 rfl rfl rfl rfl dX5_village_50 ?_
        refine g_lets hf (fun σ7 hf => ?_)
        refine g_aload_n C 0 dX5_village_53 rfl rfl ?_
        refine g_iconst C dX5_village_54 ic_0 ?_
        refine g_putI C in_X5_village_X5 (k := 14) lk_X5_village_5 rfl (Nat.le_of_ble_eq_true rfl) rfl (Nat.le_of_ble_eq_true rfl) tyX5 tyX5_ok nmX5 rfl rfl rfl rfl dX5_village_55 ?_
        refine g_lets hf (fun σ8 hf => ?_)
        refine g_iconst C dX5_village_58 ic_0 ?_
        refine g_istore_n C [1, 0] dX5_village_59 rfl (Nat.le_of_ble_eq_true rfl) rfl ?_
        refine lX5_village_60_ok  C hret (fun σ10 hf => ?_) FU (0 : Int32) σ8 hf
        refine g_iconst C dX5_village_84 ic_0 ?_
        refine g_istore_n C [1, 0] dX5_village_85 rfl (Nat.le_of_ble_eq_true rfl) rfl ?_
        refine lX5_village_86_ok  C hret (fun σ12 hf => ?_) FU (0 : Int32) σ10 hf
        refine g_iconst C dX5_village_110 ic_0 ?_
        refine g_istore_n C [1, 0] dX5_village_111 rfl (Nat.le_of_ble_eq_true rfl) rfl ?_
        refine lX5_village_112_ok  C hret (fun σ14 hf => ?_) FU (0 : Int32) σ12 hf
        refine g_aload_n C 0 dX5_village_130 rfl rfl ?_
        refine g_getI C in_X5_village_X5 (k := 10) lk_X5_village_2 rfl (Nat.le_of_ble_eq_true rfl) rfl (Nat.le_of_ble_eq_true rfl) rfl dX5_village_131 ?_
        exact g_retiW hf hret dX5_village_134
      · refine g_bipush C dX5_village_34 bp_m4 ?_
        exact g_retiW hf hret dX5_village_36
    · refine g_aload_n C 0 dX5_village_18 rfl rfl ?_
      refine g_iconst C dX5_village_19 ic_1 ?_
      obtain ⟨r16, σ17, hc15, hf⟩ := g_pbind hf
      refine g_callVi C (mX5_meets l0 D0 K0 h σ (1 : Int32) hc15) gX5_village_X5_meets rfl rfl rfl ddX5_meets ⟨(Nat.le_of_ble_eq_true rfl), (Nat.le_of_ble_eq_true rfl)⟩ rfl (Nat.le_of_ble_eq_true rfl) rfl rfl rfl (Nat.le_of_ble_eq_true rfl) dX5_village_20 ?_
      exact g_retiW hf hret dX5_village_23
  · refine g_iconst C dX5_village_7 ic_m1 ?_
    exact g_retiW hf hret dX5_village_8
/-! X5_isOne -/
theorem in_X5_isOne_X5 : ∀ q ∈ u_ws RX5 TX5 30, q ∈ wsX5_isOne := by decide +kernel
theorem lk_X5_isOne_0 : Cond.fieldLink RX5 140 "EmptyHouseModel" "n" "I" ∈ wsX5_isOne := by decide +kernel
theorem ddX5_isOne : yX5_isOne.cls = RX5 ∧ yX5_isOne.cls ≠ "java/lang/invoke/MethodHandle" ∧ yX5_isOne.cls ≠ "java/lang/invoke/VarHandle" ∧ (parseMethodDescriptor yX5_isOne.desc).map (fun d => d.parameters.length) = some 1 := by decide +kernel
set_option maxHeartbeats 4000000 in
set_option maxRecDepth 100000 in
theorem mX5_isOne (l0 : Launch) (D0 : va_G) (K0 : Nat → ClassId) (h : Nat → Nat) (σ : pS) (a1 : Int32) {r : Int32} (hf : fX5_isOne σ a1 = some r) : Met l0 yX5_isOne wsX5_isOne ({ frames := 1, cells := 0, slots := 0, locals := 22 } : Room) (va_Pc [.ref (h 0), .int a1] (pIn wM D0 K0 h σ)) (va_Qi (fun r' u' => r' = r ∧ u' = σ) (pOut wM D0 K0 h) (pA wM h)) 0 0 (pA wM h) := by
  refine p_metZ (lv := [(0, .ref (h 0)), (1, .int a1)]) (by decide +kernel) rfl rfl (Nat.le_of_ble_eq_true rfl) rfl (fun X C hret => ?_)
  unfold fX5_isOne at hf
  refine g_iload_n C 1 dX5_isOne_0 rfl rfl ?_
  refine g_iconst C dX5_isOne_1 ic_0 ?_
  refine g_aload_n C 0 dX5_isOne_2 rfl rfl ?_
  refine g_getI C in_X5_isOne_X5 (k := 10) lk_X5_isOne_0 rfl (Nat.le_of_ble_eq_true rfl) rfl (Nat.le_of_ble_eq_true rfl) rfl dX5_isOne_3 ?_
  refine g_iconst C dX5_isOne_6 ic_1 ?_
  refine g_isub C dX5_isOne_7 ?_
  obtain ⟨r2, hc1, hf⟩ := g_bind hf
  refine g_callSi C (mX5_in l0 D0 K0 h σ a1 (0 : Int32) ((pI σ 0 10) - (1 : Int32)) hc1) gX5_isOne_X5_in rfl rfl rfl ddX5_in ⟨(Nat.le_of_ble_eq_true rfl), (Nat.le_of_ble_eq_true rfl)⟩ rfl rfl (Nat.le_of_ble_eq_true rfl) dX5_isOne_8 ?_
  exact g_retzG hf hret dX5_isOne_11
/-! X5_isDebt -/
theorem in_X5_isDebt_X5 : ∀ q ∈ u_ws RX5 TX5 30, q ∈ wsX5_isDebt := by decide +kernel
theorem lk_X5_isDebt_0 : Cond.fieldLink RX5 143 "EmptyHouseModel" "debtMany" "I" ∈ wsX5_isDebt := by decide +kernel
theorem ddX5_isDebt : yX5_isDebt.cls = RX5 ∧ yX5_isDebt.cls ≠ "java/lang/invoke/MethodHandle" ∧ yX5_isDebt.cls ≠ "java/lang/invoke/VarHandle" ∧ (parseMethodDescriptor yX5_isDebt.desc).map (fun d => d.parameters.length) = some 1 := by decide +kernel
set_option maxHeartbeats 4000000 in
set_option maxRecDepth 100000 in
theorem mX5_isDebt (l0 : Launch) (D0 : va_G) (K0 : Nat → ClassId) (h : Nat → Nat) (σ : pS) (a1 : Int32) {r : Int32} (hf : fX5_isDebt σ a1 = some r) : Met l0 yX5_isDebt wsX5_isDebt ({ frames := 1, cells := 0, slots := 0, locals := 22 } : Room) (va_Pc [.ref (h 0), .int a1] (pIn wM D0 K0 h σ)) (va_Qi (fun r' u' => r' = r ∧ u' = σ) (pOut wM D0 K0 h) (pA wM h)) 0 0 (pA wM h) := by
  refine p_metZ (lv := [(0, .ref (h 0)), (1, .int a1)]) (by decide +kernel) rfl rfl (Nat.le_of_ble_eq_true rfl) rfl (fun X C hret => ?_)
  unfold fX5_isDebt at hf
  refine g_iload_n C 1 dX5_isDebt_0 rfl rfl ?_
  refine g_iconst C dX5_isDebt_1 ic_0 ?_
  refine g_aload_n C 0 dX5_isDebt_2 rfl rfl ?_
  refine g_getI C in_X5_isDebt_X5 (k := 12) lk_X5_isDebt_0 rfl (Nat.le_of_ble_eq_true rfl) rfl (Nat.le_of_ble_eq_true rfl) rfl dX5_isDebt_3 ?_
  refine g_iconst C dX5_isDebt_6 ic_1 ?_
  refine g_isub C dX5_isDebt_7 ?_
  obtain ⟨r2, hc1, hf⟩ := g_bind hf
  refine g_callSi C (mX5_in l0 D0 K0 h σ a1 (0 : Int32) ((pI σ 0 12) - (1 : Int32)) hc1) gX5_isDebt_X5_in rfl rfl rfl ddX5_in ⟨(Nat.le_of_ble_eq_true rfl), (Nat.le_of_ble_eq_true rfl)⟩ rfl rfl (Nat.le_of_ble_eq_true rfl) dX5_isDebt_8 ?_
  exact g_retzG hf hret dX5_isDebt_11
/-! X5_isHour -/
theorem ddX5_isHour : yX5_isHour.cls ≠ "java/lang/invoke/MethodHandle" ∧ yX5_isHour.cls ≠ "java/lang/invoke/VarHandle" ∧ (parseMethodDescriptor yX5_isHour.desc).map (fun d => d.parameters.length) = some 1 := by decide +kernel
set_option maxHeartbeats 4000000 in
set_option maxRecDepth 100000 in
theorem mX5_isHour (l0 : Launch) (D0 : va_G) (K0 : Nat → ClassId) (h : Nat → Nat) (σ : pS) (a1 : Int32) {r : Int32} (hf : fX5_isHour a1 = some r) : Met l0 yX5_isHour wsX5_isHour ({ frames := 1, cells := 0, slots := 0, locals := 22 } : Room) (va_Pc [.int a1] (pIn wM D0 K0 h σ)) (va_Qi (fun r' u' => r' = r ∧ u' = σ) (pOut wM D0 K0 h) (pA wM h)) 0 0 (pA wM h) := by
  refine p_metZ (lv := [(0, .int a1)]) (by decide +kernel) rfl rfl (Nat.le_of_ble_eq_true rfl) rfl (fun X C hret => ?_)
  unfold fX5_isHour at hf
  refine g_iload_n C 0 dX5_isHour_0 rfl rfl ?_
  refine g_iconst C dX5_isHour_1 ic_0 ?_
  refine g_bipush C dX5_isHour_2 bp_11 ?_
  obtain ⟨r2, hc1, hf⟩ := g_bind hf
  refine g_callSi C (mX5_in l0 D0 K0 h σ a1 (0 : Int32) (11 : Int32) hc1) gX5_isHour_X5_in rfl rfl rfl ddX5_in ⟨(Nat.le_of_ble_eq_true rfl), (Nat.le_of_ble_eq_true rfl)⟩ rfl rfl (Nat.le_of_ble_eq_true rfl) dX5_isHour_4 ?_
  exact g_retzG hf hret dX5_isHour_7
/-! X5_kind -/
theorem in_X5_kind_X5 : ∀ q ∈ u_ws RX5 TX5 30, q ∈ wsX5_kind := by decide +kernel
theorem lk_X5_kind_0 : Cond.fieldLink RX5 29 "EmptyHouseModel" "people" "[I" ∈ wsX5_kind := by decide +kernel
theorem ddX5_kind : yX5_kind.cls = RX5 ∧ yX5_kind.cls ≠ "java/lang/invoke/MethodHandle" ∧ yX5_kind.cls ≠ "java/lang/invoke/VarHandle" ∧ (parseMethodDescriptor yX5_kind.desc).map (fun d => d.parameters.length) = some 1 := by decide +kernel
set_option maxHeartbeats 4000000 in
set_option maxRecDepth 100000 in
theorem mX5_kind (l0 : Launch) (D0 : va_G) (K0 : Nat → ClassId) (h : Nat → Nat) (σ : pS) (a1 : Int32) {r : Int32} (hf : fX5_kind σ a1 = some r) : Met l0 yX5_kind wsX5_kind ({ frames := 0, cells := 0, slots := 0, locals := 0 } : Room) (va_Pc [.ref (h 0), .int a1] (pIn wM D0 K0 h σ)) (va_Qi (fun r' u' => r' = r ∧ u' = σ) (pOut wM D0 K0 h) (pA wM h)) 0 0 (pA wM h) := by
  refine p_metI (lv := [(0, .ref (h 0)), (1, .int a1)]) (by decide +kernel) rfl rfl (Nat.le_of_ble_eq_true rfl) rfl (fun X C hret => ?_)
  unfold fX5_kind at hf
  refine g_aload_n C 0 dX5_kind_0 rfl rfl ?_
  refine g_getC (n := 7) C in_X5_kind_X5 (k := 11) lk_X5_kind_0 rfl (Nat.le_of_ble_eq_true rfl) rfl (Nat.le_of_ble_eq_true rfl) rfl dX5_kind_1 ?_
  refine g_iconst C dX5_kind_4 ic_4 ?_
  refine g_iload_n C 1 dX5_kind_5 rfl rfl ?_
  refine g_imul C dX5_kind_6 ?_
  refine g_iald hf C rfl (Nat.le_of_ble_eq_true rfl) dX5_kind_7 (fun hf => ?_)
  exact g_reti hf hret dX5_kind_8
/-! X5_with -/
theorem in_X5_with_X5 : ∀ q ∈ u_ws RX5 TX5 30, q ∈ wsX5_with := by decide +kernel
theorem lk_X5_with_0 : Cond.fieldLink RX5 29 "EmptyHouseModel" "people" "[I" ∈ wsX5_with := by decide +kernel
theorem ddX5_with : yX5_with.cls = RX5 ∧ yX5_with.cls ≠ "java/lang/invoke/MethodHandle" ∧ yX5_with.cls ≠ "java/lang/invoke/VarHandle" ∧ (parseMethodDescriptor yX5_with.desc).map (fun d => d.parameters.length) = some 1 := by decide +kernel
set_option maxHeartbeats 4000000 in
set_option maxRecDepth 100000 in
theorem mX5_with (l0 : Launch) (D0 : va_G) (K0 : Nat → ClassId) (h : Nat → Nat) (σ : pS) (a1 : Int32) {r : Int32} (hf : fX5_with σ a1 = some r) : Met l0 yX5_with wsX5_with ({ frames := 0, cells := 0, slots := 0, locals := 0 } : Room) (va_Pc [.ref (h 0), .int a1] (pIn wM D0 K0 h σ)) (va_Qi (fun r' u' => r' = r ∧ u' = σ) (pOut wM D0 K0 h) (pA wM h)) 0 0 (pA wM h) := by
  refine p_metI (lv := [(0, .ref (h 0)), (1, .int a1)]) (by decide +kernel) rfl rfl (Nat.le_of_ble_eq_true rfl) rfl (fun X C hret => ?_)
  unfold fX5_with at hf
  refine g_aload_n C 0 dX5_with_0 rfl rfl ?_
  refine g_getC (n := 7) C in_X5_with_X5 (k := 11) lk_X5_with_0 rfl (Nat.le_of_ble_eq_true rfl) rfl (Nat.le_of_ble_eq_true rfl) rfl dX5_with_1 ?_
  refine g_iconst C dX5_with_4 ic_4 ?_
  refine g_iload_n C 1 dX5_with_5 rfl rfl ?_
  refine g_imul C dX5_with_6 ?_
  refine g_iconst C dX5_with_7 ic_1 ?_
  refine g_iadd C dX5_with_8 ?_
  refine g_iald hf C rfl (Nat.le_of_ble_eq_true rfl) dX5_with_9 (fun hf => ?_)
  exact g_reti hf hret dX5_with_10
/-! X5_isOut -/
theorem in_X5_isOut_X5 : ∀ q ∈ u_ws RX5 TX5 30, q ∈ wsX5_isOut := by decide +kernel
theorem lk_X5_isOut_0 : Cond.fieldLink RX5 29 "EmptyHouseModel" "people" "[I" ∈ wsX5_isOut := by decide +kernel
theorem ddX5_isOut : yX5_isOut.cls = RX5 ∧ yX5_isOut.cls ≠ "java/lang/invoke/MethodHandle" ∧ yX5_isOut.cls ≠ "java/lang/invoke/VarHandle" ∧ (parseMethodDescriptor yX5_isOut.desc).map (fun d => d.parameters.length) = some 2 := by decide +kernel
set_option maxHeartbeats 4000000 in
set_option maxRecDepth 100000 in
theorem mX5_isOut (l0 : Launch) (D0 : va_G) (K0 : Nat → ClassId) (h : Nat → Nat) (σ : pS) (a1 : Int32) (a2 : Int32) {r : Int32} (hf : fX5_isOut σ a1 a2 = some r) : Met l0 yX5_isOut wsX5_isOut ({ frames := 1, cells := 0, slots := 0, locals := 21 } : Room) (va_Pc [.ref (h 0), .int a1, .int a2] (pIn wM D0 K0 h σ)) (va_Qi (fun r' u' => r' = r ∧ u' = σ) (pOut wM D0 K0 h) (pA wM h)) 0 0 (pA wM h) := by
  refine p_metZ (lv := [(0, .ref (h 0)), (1, .int a1), (2, .int a2)]) (by decide +kernel) rfl rfl (Nat.le_of_ble_eq_true rfl) rfl (fun X C hret => ?_)
  unfold fX5_isOut at hf
  refine g_aload_n C 0 dX5_isOut_0 rfl rfl ?_
  refine g_getC (n := 7) C in_X5_isOut_X5 (k := 11) lk_X5_isOut_0 rfl (Nat.le_of_ble_eq_true rfl) rfl (Nat.le_of_ble_eq_true rfl) rfl dX5_isOut_1 ?_
  refine g_iconst C dX5_isOut_4 ic_4 ?_
  refine g_iload_n C 1 dX5_isOut_5 rfl rfl ?_
  refine g_imul C dX5_isOut_6 ?_
  refine g_iconst C dX5_isOut_7 ic_2 ?_
  refine g_iadd C dX5_isOut_8 ?_
  refine g_iald hf C rfl (Nat.le_of_ble_eq_true rfl) dX5_isOut_9 (fun hf => ?_)
  refine g_iload_n C 2 dX5_isOut_10 rfl rfl ?_
  obtain ⟨r2, hc1, hf⟩ := g_bind hf
  refine g_callSi C (mX5_has l0 D0 K0 h σ (pI σ 7 ((((4 : Int32) * a1) + (2 : Int32))).toNatClampNeg) a2 hc1) gX5_isOut_X5_has rfl rfl rfl ddX5_has ⟨(Nat.le_of_ble_eq_true rfl), (Nat.le_of_ble_eq_true rfl)⟩ rfl rfl (Nat.le_of_ble_eq_true rfl) dX5_isOut_11 ?_
  exact g_retzG hf hret dX5_isOut_14
/-! X5_isDogIn -/
theorem ddX5_isDogIn : yX5_isDogIn.cls = RX5 ∧ yX5_isDogIn.cls ≠ "java/lang/invoke/MethodHandle" ∧ yX5_isDogIn.cls ≠ "java/lang/invoke/VarHandle" ∧ (parseMethodDescriptor yX5_isDogIn.desc).map (fun d => d.parameters.length) = some 2 := by decide +kernel
set_option maxHeartbeats 4000000 in
set_option maxRecDepth 100000 in
theorem mX5_isDogIn (l0 : Launch) (D0 : va_G) (K0 : Nat → ClassId) (h : Nat → Nat) (σ : pS) (a1 : Int32) (a2 : Int32) {r : Int32} (hf : fX5_isDogIn σ a1 a2 = some r) : Met l0 yX5_isDogIn wsX5_isDogIn ({ frames := 1, cells := 0, slots := 0, locals := 21 } : Room) (va_Pc [.ref (h 0), .int a1, .int a2] (pIn wM D0 K0 h σ)) (va_Qi (fun r' u' => r' = r ∧ u' = σ) (pOut wM D0 K0 h) (pA wM h)) 0 0 (pA wM h) := by
  refine p_metZ (lv := [(0, .ref (h 0)), (1, .int a1), (2, .int a2)]) (by decide +kernel) rfl rfl (Nat.le_of_ble_eq_true rfl) rfl (fun X C hret => ?_)
  unfold fX5_isDogIn at hf
  refine g_aload_n C 0 dX5_isDogIn_0 rfl rfl ?_
  refine g_iload_n C 1 dX5_isDogIn_1 rfl rfl ?_
  obtain ⟨r2, hc1, hf⟩ := g_bind hf
  refine g_callVi C (mX5_kind l0 D0 K0 h σ a1 hc1) gX5_isDogIn_X5_kind rfl rfl rfl ddX5_kind ⟨(Nat.le_of_ble_eq_true rfl), (Nat.le_of_ble_eq_true rfl)⟩ rfl (Nat.le_of_ble_eq_true rfl) rfl rfl rfl (Nat.le_of_ble_eq_true rfl) dX5_isDogIn_2 ?_
  refine g_iconst C dX5_isDogIn_5 ic_5 ?_
  refine g_icmp_eq (tgt := 24) hf C dX5_isDogIn_6 (by decide) (fun hf => ?_) (fun hf => ?_)
  · refine g_iconst C dX5_isDogIn_24 ic_1 ?_
    refine g_goto (tgt := 29) C dX5_isDogIn_25 (by decide) ?_
    exact g_retz hf (by decide) hret dX5_isDogIn_29
  · refine g_aload_n C 0 dX5_isDogIn_9 rfl rfl ?_
    refine g_iload_n C 1 dX5_isDogIn_10 rfl rfl ?_
    obtain ⟨r4, hc3, hf⟩ := g_bind hf
    refine g_callVi C (mX5_kind l0 D0 K0 h σ a1 hc3) gX5_isDogIn_X5_kind rfl rfl rfl ddX5_kind ⟨(Nat.le_of_ble_eq_true rfl), (Nat.le_of_ble_eq_true rfl)⟩ rfl (Nat.le_of_ble_eq_true rfl) rfl rfl rfl (Nat.le_of_ble_eq_true rfl) dX5_isDogIn_11 ?_
    refine g_iconst C dX5_isDogIn_14 ic_1 ?_
    refine g_icmp_ne (tgt := 28) hf C dX5_isDogIn_15 (by decide) (fun hf => ?_) (fun hf => ?_)
    · refine g_iconst C dX5_isDogIn_28 ic_0 ?_
      exact g_retz hf (by decide) hret dX5_isDogIn_29
    · refine g_iload_n C 2 dX5_isDogIn_18 rfl rfl ?_
      refine g_iconst C dX5_isDogIn_19 ic_2 ?_
      refine g_iremC C dX5_isDogIn_20 (by decide) ?_
      refine g_if_ne (tgt := 28) hf C dX5_isDogIn_21 (by decide) (fun hf => ?_) (fun hf => ?_)
      · refine g_iconst C dX5_isDogIn_28 ic_0 ?_
        exact g_retz hf (by decide) hret dX5_isDogIn_29
      · refine g_iconst C dX5_isDogIn_24 ic_1 ?_
        refine g_goto (tgt := 29) C dX5_isDogIn_25 (by decide) ?_
        exact g_retz hf (by decide) hret dX5_isDogIn_29
/-! X5_isShared -/
theorem ddX5_isShared : yX5_isShared.cls = RX5 ∧ yX5_isShared.cls ≠ "java/lang/invoke/MethodHandle" ∧ yX5_isShared.cls ≠ "java/lang/invoke/VarHandle" ∧ (parseMethodDescriptor yX5_isShared.desc).map (fun d => d.parameters.length) = some 1 := by decide +kernel
set_option maxHeartbeats 4000000 in
set_option maxRecDepth 100000 in
theorem mX5_isShared (l0 : Launch) (D0 : va_G) (K0 : Nat → ClassId) (h : Nat → Nat) (σ : pS) (a1 : Int32) {r : Int32} (hf : fX5_isShared σ a1 = some r) : Met l0 yX5_isShared wsX5_isShared ({ frames := 1, cells := 0, slots := 0, locals := 21 } : Room) (va_Pc [.ref (h 0), .int a1] (pIn wM D0 K0 h σ)) (va_Qi (fun r' u' => r' = r ∧ u' = σ) (pOut wM D0 K0 h) (pA wM h)) 0 0 (pA wM h) := by
  refine p_metZ (lv := [(0, .ref (h 0)), (1, .int a1)]) (by decide +kernel) rfl rfl (Nat.le_of_ble_eq_true rfl) rfl (fun X C hret => ?_)
  unfold fX5_isShared at hf
  refine g_aload_n C 0 dX5_isShared_0 rfl rfl ?_
  refine g_iload_n C 1 dX5_isShared_1 rfl rfl ?_
  obtain ⟨r2, hc1, hf⟩ := g_bind hf
  refine g_callVi C (mX5_kind l0 D0 K0 h σ a1 hc1) gX5_isShared_X5_kind rfl rfl rfl ddX5_kind ⟨(Nat.le_of_ble_eq_true rfl), (Nat.le_of_ble_eq_true rfl)⟩ rfl (Nat.le_of_ble_eq_true rfl) rfl rfl rfl (Nat.le_of_ble_eq_true rfl) dX5_isShared_2 ?_
  refine g_iconst C dX5_isShared_5 ic_3 ?_
  refine g_icmp_eq (tgt := 18) hf C dX5_isShared_6 (by decide) (fun hf => ?_) (fun hf => ?_)
  · refine g_iconst C dX5_isShared_18 ic_1 ?_
    refine g_goto (tgt := 23) C dX5_isShared_19 (by decide) ?_
    exact g_retz hf (by decide) hret dX5_isShared_23
  · refine g_aload_n C 0 dX5_isShared_9 rfl rfl ?_
    refine g_iload_n C 1 dX5_isShared_10 rfl rfl ?_
    obtain ⟨r4, hc3, hf⟩ := g_bind hf
    refine g_callVi C (mX5_kind l0 D0 K0 h σ a1 hc3) gX5_isShared_X5_kind rfl rfl rfl ddX5_kind ⟨(Nat.le_of_ble_eq_true rfl), (Nat.le_of_ble_eq_true rfl)⟩ rfl (Nat.le_of_ble_eq_true rfl) rfl rfl rfl (Nat.le_of_ble_eq_true rfl) dX5_isShared_11 ?_
    refine g_iconst C dX5_isShared_14 ic_4 ?_
    refine g_icmp_ne (tgt := 22) hf C dX5_isShared_15 (by decide) (fun hf => ?_) (fun hf => ?_)
    · refine g_iconst C dX5_isShared_22 ic_0 ?_
      exact g_retz hf (by decide) hret dX5_isShared_23
    · refine g_iconst C dX5_isShared_18 ic_1 ?_
      refine g_goto (tgt := 23) C dX5_isShared_19 (by decide) ?_
      exact g_retz hf (by decide) hret dX5_isShared_23
/-! X5_debtAt -/
theorem in_X5_debtAt_X5 : ∀ q ∈ u_ws RX5 TX5 30, q ∈ wsX5_debtAt := by decide +kernel
theorem lk_X5_debtAt_0 : Cond.fieldLink RX5 32 "EmptyHouseModel" "debts" "[I" ∈ wsX5_debtAt := by decide +kernel
theorem ddX5_debtAt : yX5_debtAt.cls = RX5 ∧ yX5_debtAt.cls ≠ "java/lang/invoke/MethodHandle" ∧ yX5_debtAt.cls ≠ "java/lang/invoke/VarHandle" ∧ (parseMethodDescriptor yX5_debtAt.desc).map (fun d => d.parameters.length) = some 2 := by decide +kernel
set_option maxHeartbeats 4000000 in
set_option maxRecDepth 100000 in
theorem mX5_debtAt (l0 : Launch) (D0 : va_G) (K0 : Nat → ClassId) (h : Nat → Nat) (σ : pS) (a1 : Int32) (a2 : Int32) {r : Int32} (hf : fX5_debtAt σ a1 a2 = some r) : Met l0 yX5_debtAt wsX5_debtAt ({ frames := 0, cells := 0, slots := 0, locals := 0 } : Room) (va_Pc [.ref (h 0), .int a1, .int a2] (pIn wM D0 K0 h σ)) (va_Qi (fun r' u' => r' = r ∧ u' = σ) (pOut wM D0 K0 h) (pA wM h)) 0 0 (pA wM h) := by
  refine p_metI (lv := [(0, .ref (h 0)), (1, .int a1), (2, .int a2)]) (by decide +kernel) rfl rfl (Nat.le_of_ble_eq_true rfl) rfl (fun X C hret => ?_)
  unfold fX5_debtAt at hf
  refine g_aload_n C 0 dX5_debtAt_0 rfl rfl ?_
  refine g_getC (n := 8) C in_X5_debtAt_X5 (k := 13) lk_X5_debtAt_0 rfl (Nat.le_of_ble_eq_true rfl) rfl (Nat.le_of_ble_eq_true rfl) rfl dX5_debtAt_1 ?_
  refine g_iconst C dX5_debtAt_4 ic_5 ?_
  refine g_iload_n C 1 dX5_debtAt_5 rfl rfl ?_
  refine g_imul C dX5_debtAt_6 ?_
  refine g_iload_n C 2 dX5_debtAt_7 rfl rfl ?_
  refine g_iadd C dX5_debtAt_8 ?_
  refine g_iald hf C rfl (Nat.le_of_ble_eq_true rfl) dX5_debtAt_9 (fun hf => ?_)
  exact g_reti hf hret dX5_debtAt_10
/-! X5_one -/
theorem in_X5_one_X5 : ∀ q ∈ u_ws RX5 TX5 30, q ∈ wsX5_one := by decide +kernel
theorem lk_X5_one_0 : Cond.fieldLink RX5 29 "EmptyHouseModel" "people" "[I" ∈ wsX5_one := by decide +kernel
theorem ddX5_one : yX5_one.cls = RX5 ∧ yX5_one.cls ≠ "java/lang/invoke/MethodHandle" ∧ yX5_one.cls ≠ "java/lang/invoke/VarHandle" ∧ (parseMethodDescriptor yX5_one.desc).map (fun d => d.parameters.length) = some 2 := by decide +kernel
set_option maxHeartbeats 4000000 in
set_option maxRecDepth 100000 in
theorem mX5_one (l0 : Launch) (D0 : va_G) (K0 : Nat → ClassId) (h : Nat → Nat) (σ : pS) (a1 : Int32) (a2 : Int32) {r : Int32} {u : pS} (hf : fX5_one σ a1 a2 = some (r, u)) : Met l0 yX5_one wsX5_one ({ frames := 2, cells := 0, slots := 0, locals := 43 } : Room) (va_Pc [.ref (h 0), .int a1, .int a2] (pIn wM D0 K0 h σ)) (va_Qi (fun r' u' => r' = r ∧ u' = u) (pOut wM D0 K0 h) (pA wM h)) 0 0 (pA wM h) := by
  refine p_metI (lv := [(0, .ref (h 0)), (1, .int a1), (2, .int a2)]) (by decide +kernel) rfl rfl (Nat.le_of_ble_eq_true rfl) rfl (fun X C hret => ?_)
  unfold fX5_one at hf
  refine g_aload_n C 0 dX5_one_0 rfl rfl ?_
  refine g_iload_n C 1 dX5_one_1 rfl rfl ?_
  obtain ⟨r2, hc1, hf⟩ := g_bind hf
  refine g_callVi C (mX5_isOne l0 D0 K0 h σ a1 hc1) gX5_one_X5_isOne rfl rfl rfl ddX5_isOne ⟨(Nat.le_of_ble_eq_true rfl), (Nat.le_of_ble_eq_true rfl)⟩ rfl (Nat.le_of_ble_eq_true rfl) rfl rfl rfl (Nat.le_of_ble_eq_true rfl) dX5_one_2 ?_
  refine g_if_eq (tgt := 35) hf C dX5_one_5 (by decide) (fun hf => ?_) (fun hf => ?_)
  · refine g_iconst C dX5_one_35 ic_m1 ?_
    exact g_retiW hf hret dX5_one_36
  · refine g_iload_n C 2 dX5_one_8 rfl rfl ?_
    refine g_iconst C dX5_one_9 ic_0 ?_
    refine g_iconst C dX5_one_10 ic_3 ?_
    obtain ⟨r4, hc3, hf⟩ := g_bind hf
    refine g_callSi C (mX5_in l0 D0 K0 h σ a2 (0 : Int32) (3 : Int32) hc3) gX5_one_X5_in rfl rfl rfl ddX5_in ⟨(Nat.le_of_ble_eq_true rfl), (Nat.le_of_ble_eq_true rfl)⟩ rfl rfl (Nat.le_of_ble_eq_true rfl) dX5_one_11 ?_
    refine g_if_eq (tgt := 35) hf C dX5_one_14 (by decide) (fun hf => ?_) (fun hf => ?_)
    · refine g_iconst C dX5_one_35 ic_m1 ?_
      exact g_retiW hf hret dX5_one_36
    · refine g_aload_n C 0 dX5_one_17 rfl rfl ?_
      refine g_aload_n C 0 dX5_one_18 rfl rfl ?_
      refine g_getC (n := 7) C in_X5_one_X5 (k := 11) lk_X5_one_0 rfl (Nat.le_of_ble_eq_true rfl) rfl (Nat.le_of_ble_eq_true rfl) rfl dX5_one_19 ?_
      refine g_iconst C dX5_one_22 ic_4 ?_
      refine g_iload_n C 1 dX5_one_23 rfl rfl ?_
      refine g_imul C dX5_one_24 ?_
      refine g_iload_n C 2 dX5_one_25 rfl rfl ?_
      refine g_iadd C dX5_one_26 ?_
      refine g_iald hf C rfl (Nat.le_of_ble_eq_true rfl) dX5_one_27 (fun hf => ?_)
      refine g_iconst C dX5_one_28 ic_1 ?_
      obtain ⟨r6, σ7, hc5, hf⟩ := g_pbind hf
      refine g_callVi C (mX5_tells l0 D0 K0 h σ (pI σ 7 ((((4 : Int32) * a1) + a2)).toNatClampNeg) (1 : Int32) hc5) gX5_one_X5_tells rfl rfl rfl ddX5_tells ⟨(Nat.le_of_ble_eq_true rfl), (Nat.le_of_ble_eq_true rfl)⟩ rfl (Nat.le_of_ble_eq_true rfl) rfl rfl rfl (Nat.le_of_ble_eq_true rfl) dX5_one_29 ?_
      refine g_goto (tgt := 36) C dX5_one_32 (by decide) ?_
      exact g_retiW hf hret dX5_one_36
/-! X5_outHours -/
theorem ddX5_outHours : yX5_outHours.cls = RX5 ∧ yX5_outHours.cls ≠ "java/lang/invoke/MethodHandle" ∧ yX5_outHours.cls ≠ "java/lang/invoke/VarHandle" ∧ (parseMethodDescriptor yX5_outHours.desc).map (fun d => d.parameters.length) = some 2 := by decide +kernel
set_option maxHeartbeats 4000000 in
set_option maxRecDepth 100000 in
theorem lX5_outHours_5_ok {h : Nat → Nat} {X : Cx} {l0 : Launch} {D0 : va_G} {K0 : Nat → ClassId} (σ : pS) (p1 : Int32) (p2 : Int32) {k50 : Int32 → Option Int32} {r : Int32} (C : Cok wM h X l0 ({ frames := 2, cells := 0, slots := 0, locals := 43 } : Room) D0 K0 cX5_outHours 5 RX5 wsX5_outHours) (hret : ∀ (pc : Nat) (lv' : List (Nat × Value)), decode cX5_outHours pc = .ok (.ireturn, 1) → G wM h X pc lv' [.int r] σ) (hk50 : ∀ (z3 : Int32), k50 z3 = some r → G wM h X 50 [(3, .int z3)] [] σ) : ∀ (F : Nat) (v3 : Int32) (v4 : Int32), lX5_outHours_5 σ p1 p2 k50 F v3 v4 = some r → G wM h X 5 [(0, .ref (h 0)), (1, .int p1), (2, .int p2), (3, .int v3), (4, .int v4)] [] σ := by
  intro F
  induction F with
  | zero => intro v3 v4 hf; exact absurd hf (by simp [lX5_outHours_5])
  | succ F ih =>
    intro v3 v4 hf
    rw [lX5_outHours_5.eq_2] at hf
    refine g_iload C 4 dX5_outHours_5 rfl ?_
    refine g_bipush C dX5_outHours_7 bp_12 ?_
    refine g_icmp_ge (tgt := 50) hf C dX5_outHours_9 (by decide) (fun hf => ?_) (fun hf => ?_)
    · refine g_lv [3] rfl ?_
      exact hk50 v3 hf
    · refine g_iload_n C 3 dX5_outHours_12 rfl rfl ?_
      refine g_aload_n C 0 dX5_outHours_13 rfl rfl ?_
      refine g_iload_n C 1 dX5_outHours_14 rfl rfl ?_
      refine g_iload C 4 dX5_outHours_15 rfl ?_
      obtain ⟨r2, hc1, hf⟩ := g_bind hf
      refine g_callVi C (mX5_isOut l0 D0 K0 h σ p1 v4 hc1) gX5_outHours_X5_isOut rfl rfl rfl ddX5_isOut ⟨(Nat.le_of_ble_eq_true rfl), (Nat.le_of_ble_eq_true rfl)⟩ rfl (Nat.le_of_ble_eq_true rfl) rfl rfl rfl (Nat.le_of_ble_eq_true rfl) dX5_outHours_17 ?_
      refine g_join (P := fun j => ∀ (y4 : Int32), j y4 = some r → G wM h X 42 [(0, .ref (h 0)), (1, .int p1), (2, .int p2), (4, .int v4)] [.int y4, .int v3] σ) hf (fun y4 hf => ?_) (fun j3 hj3 hf => ?_)
      · refine g_iadd C dX5_outHours_42 ?_
        refine g_leti hf (fun x5 hf => ?_)
        refine g_istore_n C [1, 2, 3, 0, 4] dX5_outHours_43 rfl (Nat.le_of_ble_eq_true rfl) rfl ?_
        refine g_iinc C 4 [1, 2, 3, 4, 0] dX5_outHours_44 rfl ic_1 (Nat.le_of_ble_eq_true rfl) rfl ?_
        refine g_goto (tgt := 5) C dX5_outHours_47 (by decide) ?_
        exact ih x5 (v4 + (1 : Int32)) hf
      · refine g_if_eq (tgt := 41) hf C dX5_outHours_20 (by decide) (fun hf => ?_) (fun hf => ?_)
        · refine g_iconst C dX5_outHours_41 ic_0 ?_
          refine g_lv [0, 1, 2, 4] rfl ?_
          exact hj3 (0 : Int32) hf
        · refine g_iload_n C 2 dX5_outHours_23 rfl rfl ?_
          refine g_if_eq (tgt := 37) hf C dX5_outHours_24 (by decide) (fun hf => ?_) (fun hf => ?_)
          · refine g_iconst C dX5_outHours_37 ic_1 ?_
            refine g_goto (tgt := 42) C dX5_outHours_38 (by decide) ?_
            refine g_lv [0, 1, 2, 4] rfl ?_
            exact hj3 (1 : Int32) hf
          · refine g_aload_n C 0 dX5_outHours_27 rfl rfl ?_
            refine g_iload_n C 1 dX5_outHours_28 rfl rfl ?_
            refine g_iload C 4 dX5_outHours_29 rfl ?_
            obtain ⟨r7, hc6, hf⟩ := g_bind hf
            refine g_callVi C (mX5_isDogIn l0 D0 K0 h σ p1 v4 hc6) gX5_outHours_X5_isDogIn rfl rfl rfl ddX5_isDogIn ⟨(Nat.le_of_ble_eq_true rfl), (Nat.le_of_ble_eq_true rfl)⟩ rfl (Nat.le_of_ble_eq_true rfl) rfl rfl rfl (Nat.le_of_ble_eq_true rfl) dX5_outHours_31 ?_
            refine g_if_eq (tgt := 41) hf C dX5_outHours_34 (by decide) (fun hf => ?_) (fun hf => ?_)
            · refine g_iconst C dX5_outHours_41 ic_0 ?_
              refine g_lv [0, 1, 2, 4] rfl ?_
              exact hj3 (0 : Int32) hf
            · refine g_iconst C dX5_outHours_37 ic_1 ?_
              refine g_goto (tgt := 42) C dX5_outHours_38 (by decide) ?_
              refine g_lv [0, 1, 2, 4] rfl ?_
              exact hj3 (1 : Int32) hf
set_option maxHeartbeats 4000000 in
set_option maxRecDepth 100000 in
theorem mX5_outHours (l0 : Launch) (D0 : va_G) (K0 : Nat → ClassId) (h : Nat → Nat) (σ : pS) (a1 : Int32) (a2 : Int32) {r : Int32} (hf : fX5_outHours σ a1 a2 = some r) : Met l0 yX5_outHours wsX5_outHours ({ frames := 2, cells := 0, slots := 0, locals := 43 } : Room) (va_Pc [.ref (h 0), .int a1, .int a2] (pIn wM D0 K0 h σ)) (va_Qi (fun r' u' => r' = r ∧ u' = σ) (pOut wM D0 K0 h) (pA wM h)) 0 0 (pA wM h) := by
  refine p_metI (lv := [(0, .ref (h 0)), (1, .int a1), (2, .int a2)]) (by decide +kernel) rfl rfl (Nat.le_of_ble_eq_true rfl) rfl (fun X C hret => ?_)
  unfold fX5_outHours at hf
  refine g_iconst C dX5_outHours_0 ic_0 ?_
  refine g_istore_n C [1, 2, 3, 0] dX5_outHours_1 rfl (Nat.le_of_ble_eq_true rfl) rfl ?_
  refine g_iconst C dX5_outHours_2 ic_0 ?_
  refine g_istore C [1, 2, 3, 4, 0] dX5_outHours_3 (Nat.le_of_ble_eq_true rfl) rfl ?_
  refine lX5_outHours_5_ok σ a1 a2 C hret (fun y8 hf => ?_) FU (0 : Int32) (0 : Int32) hf
  refine g_iload_n C 0 dX5_outHours_50 rfl rfl ?_
  exact g_reti hf hret dX5_outHours_51
/-! X5_owedTo -/
theorem in_X5_owedTo_X5 : ∀ q ∈ u_ws RX5 TX5 30, q ∈ wsX5_owedTo := by decide +kernel
theorem lk_X5_owedTo_0 : Cond.fieldLink RX5 143 "EmptyHouseModel" "debtMany" "I" ∈ wsX5_owedTo := by decide +kernel
theorem ddX5_owedTo : yX5_owedTo.cls = RX5 ∧ yX5_owedTo.cls ≠ "java/lang/invoke/MethodHandle" ∧ yX5_owedTo.cls ≠ "java/lang/invoke/VarHandle" ∧ (parseMethodDescriptor yX5_owedTo.desc).map (fun d => d.parameters.length) = some 1 := by decide +kernel
set_option maxHeartbeats 4000000 in
set_option maxRecDepth 100000 in
theorem lX5_owedTo_4_ok {h : Nat → Nat} {X : Cx} {l0 : Launch} {D0 : va_G} {K0 : Nat → ClassId} (σ : pS) (p1 : Int32) {k36 : Int32 → Option Int32} {r : Int32} (C : Cok wM h X l0 ({ frames := 1, cells := 0, slots := 0, locals := 22 } : Room) D0 K0 cX5_owedTo 4 RX5 wsX5_owedTo) (hret : ∀ (pc : Nat) (lv' : List (Nat × Value)), decode cX5_owedTo pc = .ok (.ireturn, 1) → G wM h X pc lv' [.int r] σ) (hk36 : ∀ (z2 : Int32), k36 z2 = some r → G wM h X 36 [(2, .int z2)] [] σ) : ∀ (F : Nat) (v2 : Int32) (v3 : Int32), lX5_owedTo_4 σ p1 k36 F v2 v3 = some r → G wM h X 4 [(0, .ref (h 0)), (1, .int p1), (2, .int v2), (3, .int v3)] [] σ := by
  intro F
  induction F with
  | zero => intro v2 v3 hf; exact absurd hf (by simp [lX5_owedTo_4])
  | succ F ih =>
    intro v2 v3 hf
    rw [lX5_owedTo_4.eq_2] at hf
    refine g_iload_n C 3 dX5_owedTo_4 rfl rfl ?_
    refine g_aload_n C 0 dX5_owedTo_5 rfl rfl ?_
    refine g_getI C in_X5_owedTo_X5 (k := 12) lk_X5_owedTo_0 rfl (Nat.le_of_ble_eq_true rfl) rfl (Nat.le_of_ble_eq_true rfl) rfl dX5_owedTo_6 ?_
    refine g_icmp_ge (tgt := 36) hf C dX5_owedTo_9 (by decide) (fun hf => ?_) (fun hf => ?_)
    · refine g_lv [2] rfl ?_
      exact hk36 v2 hf
    · refine g_iload_n C 2 dX5_owedTo_12 rfl rfl ?_
      refine g_aload_n C 0 dX5_owedTo_13 rfl rfl ?_
      refine g_iload_n C 3 dX5_owedTo_14 rfl rfl ?_
      refine g_iconst C dX5_owedTo_15 ic_1 ?_
      obtain ⟨r2, hc1, hf⟩ := g_bind hf
      refine g_callVi C (mX5_debtAt l0 D0 K0 h σ v3 (1 : Int32) hc1) gX5_owedTo_X5_debtAt rfl rfl rfl ddX5_debtAt ⟨(Nat.le_of_ble_eq_true rfl), (Nat.le_of_ble_eq_true rfl)⟩ rfl (Nat.le_of_ble_eq_true rfl) rfl rfl rfl (Nat.le_of_ble_eq_true rfl) dX5_owedTo_16 ?_
      refine g_iload_n C 1 dX5_owedTo_19 rfl rfl ?_
      refine g_join (P := fun j => ∀ (y4 : Int32), j y4 = some r → G wM h X 28 [(0, .ref (h 0)), (1, .int p1), (3, .int v3)] [.int y4, .int v2] σ) hf (fun y4 hf => ?_) (fun j3 hj3 hf => ?_)
      · refine g_iadd C dX5_owedTo_28 ?_
        refine g_leti hf (fun x5 hf => ?_)
        refine g_istore_n C [1, 2, 0, 3] dX5_owedTo_29 rfl (Nat.le_of_ble_eq_true rfl) rfl ?_
        refine g_iinc C 3 [1, 2, 3, 0] dX5_owedTo_30 rfl ic_1 (Nat.le_of_ble_eq_true rfl) rfl ?_
        refine g_goto (tgt := 4) C dX5_owedTo_33 (by decide) ?_
        exact ih x5 (v3 + (1 : Int32)) hf
      · refine g_icmp_ne (tgt := 27) hf C dX5_owedTo_20 (by decide) (fun hf => ?_) (fun hf => ?_)
        · refine g_iconst C dX5_owedTo_27 ic_0 ?_
          refine g_lv [0, 1, 3] rfl ?_
          exact hj3 (0 : Int32) hf
        · refine g_iconst C dX5_owedTo_23 ic_1 ?_
          refine g_goto (tgt := 28) C dX5_owedTo_24 (by decide) ?_
          refine g_lv [0, 1, 3] rfl ?_
          exact hj3 (1 : Int32) hf
set_option maxHeartbeats 4000000 in
set_option maxRecDepth 100000 in
theorem mX5_owedTo (l0 : Launch) (D0 : va_G) (K0 : Nat → ClassId) (h : Nat → Nat) (σ : pS) (a1 : Int32) {r : Int32} (hf : fX5_owedTo σ a1 = some r) : Met l0 yX5_owedTo wsX5_owedTo ({ frames := 1, cells := 0, slots := 0, locals := 22 } : Room) (va_Pc [.ref (h 0), .int a1] (pIn wM D0 K0 h σ)) (va_Qi (fun r' u' => r' = r ∧ u' = σ) (pOut wM D0 K0 h) (pA wM h)) 0 0 (pA wM h) := by
  refine p_metI (lv := [(0, .ref (h 0)), (1, .int a1)]) (by decide +kernel) rfl rfl (Nat.le_of_ble_eq_true rfl) rfl (fun X C hret => ?_)
  unfold fX5_owedTo at hf
  refine g_iconst C dX5_owedTo_0 ic_0 ?_
  refine g_istore_n C [1, 2, 0] dX5_owedTo_1 rfl (Nat.le_of_ble_eq_true rfl) rfl ?_
  refine g_iconst C dX5_owedTo_2 ic_0 ?_
  refine g_istore_n C [1, 2, 3, 0] dX5_owedTo_3 rfl (Nat.le_of_ble_eq_true rfl) rfl ?_
  refine lX5_owedTo_4_ok σ a1 C hret (fun y6 hf => ?_) FU (0 : Int32) (0 : Int32) hf
  refine g_iload_n C 0 dX5_owedTo_36 rfl rfl ?_
  exact g_reti hf hret dX5_owedTo_37
/-! X5_mark -/
theorem in_X5_mark_X5 : ∀ q ∈ u_ws RX5 TX5 30, q ∈ wsX5_mark := by decide +kernel
theorem lk_X5_mark_0 : Cond.fieldLink RX5 29 "EmptyHouseModel" "people" "[I" ∈ wsX5_mark := by decide +kernel
theorem ddX5_mark : yX5_mark.cls = RX5 ∧ yX5_mark.cls ≠ "java/lang/invoke/MethodHandle" ∧ yX5_mark.cls ≠ "java/lang/invoke/VarHandle" ∧ (parseMethodDescriptor yX5_mark.desc).map (fun d => d.parameters.length) = some 2 := by decide +kernel
set_option maxHeartbeats 4000000 in
set_option maxRecDepth 100000 in
theorem mX5_mark (l0 : Launch) (D0 : va_G) (K0 : Nat → ClassId) (h : Nat → Nat) (σ : pS) (a1 : Int32) (a2 : Int32) {r : Int32} {u : pS} (hf : fX5_mark σ a1 a2 = some (r, u)) : Met l0 yX5_mark wsX5_mark ({ frames := 3, cells := 0, slots := 0, locals := 67 } : Room) (va_Pc [.ref (h 0), .int a1, .int a2] (pIn wM D0 K0 h σ)) (va_Qi (fun r' u' => r' = r ∧ u' = u) (pOut wM D0 K0 h) (pA wM h)) 0 0 (pA wM h) := by
  refine p_metI (lv := [(0, .ref (h 0)), (1, .int a1), (2, .int a2)]) (by decide +kernel) rfl rfl (Nat.le_of_ble_eq_true rfl) rfl (fun X C hret => ?_)
  unfold fX5_mark at hf
  refine g_aload_n C 0 dX5_mark_0 rfl rfl ?_
  refine g_iload_n C 1 dX5_mark_1 rfl rfl ?_
  obtain ⟨r2, hc1, hf⟩ := g_bind hf
  refine g_callVi C (mX5_isOne l0 D0 K0 h σ a1 hc1) gX5_mark_X5_isOne rfl rfl rfl ddX5_isOne ⟨(Nat.le_of_ble_eq_true rfl), (Nat.le_of_ble_eq_true rfl)⟩ rfl (Nat.le_of_ble_eq_true rfl) rfl rfl rfl (Nat.le_of_ble_eq_true rfl) dX5_mark_2 ?_
  refine g_if_eq (tgt := 17) hf C dX5_mark_5 (by decide) (fun hf => ?_) (fun hf => ?_)
  · refine g_iconst C dX5_mark_17 ic_m1 ?_
    exact g_retiW hf hret dX5_mark_18
  · refine g_iload_n C 2 dX5_mark_8 rfl rfl ?_
    refine g_iconst C dX5_mark_9 ic_1 ?_
    refine g_iconst C dX5_mark_10 ic_5 ?_
    obtain ⟨r4, hc3, hf⟩ := g_bind hf
    refine g_callSi C (mX5_in l0 D0 K0 h σ a2 (1 : Int32) (5 : Int32) hc3) gX5_mark_X5_in rfl rfl rfl ddX5_in ⟨(Nat.le_of_ble_eq_true rfl), (Nat.le_of_ble_eq_true rfl)⟩ rfl rfl (Nat.le_of_ble_eq_true rfl) dX5_mark_11 ?_
    refine g_if_ne (tgt := 19) hf C dX5_mark_14 (by decide) (fun hf => ?_) (fun hf => ?_)
    · refine g_aload_n C 0 dX5_mark_19 rfl rfl ?_
      refine g_iload_n C 1 dX5_mark_20 rfl rfl ?_
      obtain ⟨r6, hc5, hf⟩ := g_bind hf
      refine g_callVi C (mX5_kind l0 D0 K0 h σ a1 hc5) gX5_mark_X5_kind rfl rfl rfl ddX5_kind ⟨(Nat.le_of_ble_eq_true rfl), (Nat.le_of_ble_eq_true rfl)⟩ rfl (Nat.le_of_ble_eq_true rfl) rfl rfl rfl (Nat.le_of_ble_eq_true rfl) dX5_mark_21 ?_
      refine g_istore_n C [1, 2, 3, 0] dX5_mark_24 rfl (Nat.le_of_ble_eq_true rfl) rfl ?_
      refine g_iload_n C 3 dX5_mark_25 rfl rfl ?_
      refine g_iload_n C 2 dX5_mark_26 rfl rfl ?_
      refine g_join (P := fun j => j = some (r, u) → G wM h X 56 [(0, .ref (h 0)), (1, .int a1), (2, .int a2)] [] σ) hf (fun hf => ?_) (fun j7 hj7 hf => ?_)
      · refine g_iload_n C 2 dX5_mark_56 rfl rfl ?_
        refine g_swc hf (fun hx10 hf => ?_) (fun hn11 hf => ?_)
        · refine g_swin (tgt := 88) hx10 C dX5_mark_57 (by decide) (by decide) rfl (by decide) ?_
          refine g_aload_n C 0 dX5_mark_88 rfl rfl ?_
          refine g_iload_n C 1 dX5_mark_89 rfl rfl ?_
          refine g_iconst C dX5_mark_90 ic_1 ?_
          obtain ⟨r9, hc8, hf⟩ := g_bind hf
          refine g_callVi C (mX5_outHours l0 D0 K0 h σ a1 (1 : Int32) hc8) gX5_mark_X5_outHours rfl rfl rfl ddX5_outHours ⟨(Nat.le_of_ble_eq_true rfl), (Nat.le_of_ble_eq_true rfl)⟩ rfl (Nat.le_of_ble_eq_true rfl) rfl rfl rfl (Nat.le_of_ble_eq_true rfl) dX5_mark_91 ?_
          exact g_retiW hf hret dX5_mark_94
        · refine g_swc hf (fun hx14 hf => ?_) (fun hn15 hf => ?_)
          · refine g_swin (tgt := 95) hx14 C dX5_mark_57 (by decide) (by decide) rfl (by decide) ?_
            refine g_aload_n C 0 dX5_mark_95 rfl rfl ?_
            refine g_iload_n C 1 dX5_mark_96 rfl rfl ?_
            obtain ⟨r13, hc12, hf⟩ := g_bind hf
            refine g_callVi C (mX5_owedTo l0 D0 K0 h σ a1 hc12) gX5_mark_X5_owedTo rfl rfl rfl ddX5_owedTo ⟨(Nat.le_of_ble_eq_true rfl), (Nat.le_of_ble_eq_true rfl)⟩ rfl (Nat.le_of_ble_eq_true rfl) rfl rfl rfl (Nat.le_of_ble_eq_true rfl) dX5_mark_97 ?_
            exact g_retiW hf hret dX5_mark_100
          · refine g_swc hf (fun hx18 hf => ?_) (fun hn19 hf => ?_)
            · refine g_swin (tgt := 101) hx18 C dX5_mark_57 (by decide) (by decide) rfl (by decide) ?_
              refine g_aload_n C 0 dX5_mark_101 rfl rfl ?_
              refine g_iload_n C 1 dX5_mark_102 rfl rfl ?_
              obtain ⟨r17, hc16, hf⟩ := g_bind hf
              refine g_callVi C (mX5_with l0 D0 K0 h σ a1 hc16) gX5_mark_X5_with rfl rfl rfl ddX5_with ⟨(Nat.le_of_ble_eq_true rfl), (Nat.le_of_ble_eq_true rfl)⟩ rfl (Nat.le_of_ble_eq_true rfl) rfl rfl rfl (Nat.le_of_ble_eq_true rfl) dX5_mark_103 ?_
              exact g_retiW hf hret dX5_mark_106
            · refine g_swc hf (fun hx24 hf => ?_) (fun hn25 hf => ?_)
              · refine g_swin (tgt := 107) hx24 C dX5_mark_57 (by decide) (by decide) rfl (by decide) ?_
                refine g_aload_n C 0 dX5_mark_107 rfl rfl ?_
                refine g_getC (n := 7) C in_X5_mark_X5 (k := 11) lk_X5_mark_0 rfl (Nat.le_of_ble_eq_true rfl) rfl (Nat.le_of_ble_eq_true rfl) rfl dX5_mark_108 ?_
                refine g_iconst C dX5_mark_111 ic_4 ?_
                refine g_iload_n C 1 dX5_mark_112 rfl rfl ?_
                refine g_imul C dX5_mark_113 ?_
                refine g_iconst C dX5_mark_114 ic_2 ?_
                refine g_iadd C dX5_mark_115 ?_
                refine g_iald hf C rfl (Nat.le_of_ble_eq_true rfl) dX5_mark_116 (fun hf => ?_)
                refine g_aload_n C 0 dX5_mark_117 rfl rfl ?_
                refine g_getC (n := 7) C in_X5_mark_X5 (k := 11) lk_X5_mark_0 rfl (Nat.le_of_ble_eq_true rfl) rfl (Nat.le_of_ble_eq_true rfl) rfl dX5_mark_118 ?_
                refine g_iconst C dX5_mark_121 ic_4 ?_
                refine g_aload_n C 0 dX5_mark_122 rfl rfl ?_
                refine g_iload_n C 1 dX5_mark_123 rfl rfl ?_
                obtain ⟨r21, hc20, hf⟩ := g_bind hf
                refine g_callVi C (mX5_with l0 D0 K0 h σ a1 hc20) gX5_mark_X5_with rfl rfl rfl ddX5_with ⟨(Nat.le_of_ble_eq_true rfl), (Nat.le_of_ble_eq_true rfl)⟩ rfl (Nat.le_of_ble_eq_true rfl) rfl rfl rfl (Nat.le_of_ble_eq_true rfl) dX5_mark_124 ?_
                refine g_imul C dX5_mark_127 ?_
                refine g_iconst C dX5_mark_128 ic_2 ?_
                refine g_iadd C dX5_mark_129 ?_
                refine g_iald hf C rfl (Nat.le_of_ble_eq_true rfl) dX5_mark_130 (fun hf => ?_)
                refine g_ixor C dX5_mark_131 ?_
                obtain ⟨r23, hc22, hf⟩ := g_bind hf
                refine g_callSi C (mX5_bits l0 D0 K0 h σ ((pI σ 7 ((((4 : Int32) * a1) + (2 : Int32))).toNatClampNeg) ^^^ (pI σ 7 ((((4 : Int32) * r21) + (2 : Int32))).toNatClampNeg)) hc22) gX5_mark_X5_bits rfl rfl rfl ddX5_bits ⟨(Nat.le_of_ble_eq_true rfl), (Nat.le_of_ble_eq_true rfl)⟩ rfl rfl (Nat.le_of_ble_eq_true rfl) dX5_mark_132 ?_
                exact g_retiW hf hret dX5_mark_135
              · refine g_swout (tgt := 136) C dX5_mark_57 (by have := lv_neT (a := 1) hn11 (by decide); have := lv_neT (a := 2) hn15 (by decide); have := lv_neT (a := 3) hn19 (by decide); have := lv_neT (a := 4) hn25 (by decide); omega) (by decide) ?_
                refine g_aload_n C 0 dX5_mark_136 rfl rfl ?_
                refine g_iload_n C 1 dX5_mark_137 rfl rfl ?_
                refine g_iconst C dX5_mark_138 ic_0 ?_
                obtain ⟨r27, hc26, hf⟩ := g_bind hf
                refine g_callVi C (mX5_outHours l0 D0 K0 h σ a1 (0 : Int32) hc26) gX5_mark_X5_outHours rfl rfl rfl ddX5_outHours ⟨(Nat.le_of_ble_eq_true rfl), (Nat.le_of_ble_eq_true rfl)⟩ rfl (Nat.le_of_ble_eq_true rfl) rfl rfl rfl (Nat.le_of_ble_eq_true rfl) dX5_mark_139 ?_
                exact g_retiW hf hret dX5_mark_142
      · refine g_icmp_eq (tgt := 56) hf C dX5_mark_27 (by decide) (fun hf => ?_) (fun hf => ?_)
        · refine g_lv [0, 1, 2] rfl ?_
          exact hj7 hf
        · refine g_iload_n C 2 dX5_mark_30 rfl rfl ?_
          refine g_iconst C dX5_mark_31 ic_1 ?_
          refine g_join (P := fun j => j = some (r, u) → G wM h X 40 [(0, .ref (h 0)), (1, .int a1), (2, .int a2), (3, .int r6)] [] σ) hf (fun hf => ?_) (fun j28 hj28 hf => ?_)
          · refine g_iload_n C 2 dX5_mark_40 rfl rfl ?_
            refine g_iconst C dX5_mark_41 ic_3 ?_
            refine g_join (P := fun j => j = some (r, u) → G wM h X 50 [(0, .ref (h 0))] [] σ) hf (fun hf => ?_) (fun j29 hj29 hf => ?_)
            · refine g_aload_n C 0 dX5_mark_50 rfl rfl ?_
              refine g_iconst C dX5_mark_51 ic_3 ?_
              obtain ⟨r31, σ32, hc30, hf⟩ := g_pbind hf
              refine g_callVi C (mX5_meets l0 D0 K0 h σ (3 : Int32) hc30) gX5_mark_X5_meets rfl rfl rfl ddX5_meets ⟨(Nat.le_of_ble_eq_true rfl), (Nat.le_of_ble_eq_true rfl)⟩ rfl (Nat.le_of_ble_eq_true rfl) rfl rfl rfl (Nat.le_of_ble_eq_true rfl) dX5_mark_52 ?_
              exact g_retiW hf hret dX5_mark_55
            · refine g_icmp_ne (tgt := 50) hf C dX5_mark_42 (by decide) (fun hf => ?_) (fun hf => ?_)
              · refine g_lv [0] rfl ?_
                exact hj29 hf
              · refine g_iload_n C 3 dX5_mark_45 rfl rfl ?_
                refine g_iconst C dX5_mark_46 ic_4 ?_
                refine g_icmp_eq (tgt := 56) hf C dX5_mark_47 (by decide) (fun hf => ?_) (fun hf => ?_)
                · refine g_lv [0, 1, 2] rfl ?_
                  exact hj7 hf
                · refine g_lv [0] rfl ?_
                  exact hj29 hf
          · refine g_icmp_ne (tgt := 40) hf C dX5_mark_32 (by decide) (fun hf => ?_) (fun hf => ?_)
            · exact hj28 hf
            · refine g_iload_n C 3 dX5_mark_35 rfl rfl ?_
              refine g_iconst C dX5_mark_36 ic_5 ?_
              refine g_icmp_eq (tgt := 56) hf C dX5_mark_37 (by decide) (fun hf => ?_) (fun hf => ?_)
              · refine g_lv [0, 1, 2] rfl ?_
                exact hj7 hf
              · exact hj28 hf
    · refine g_iconst C dX5_mark_17 ic_m1 ?_
      exact g_retiW hf hret dX5_mark_18
/-! X5_debt -/
theorem ddX5_debt : yX5_debt.cls = RX5 ∧ yX5_debt.cls ≠ "java/lang/invoke/MethodHandle" ∧ yX5_debt.cls ≠ "java/lang/invoke/VarHandle" ∧ (parseMethodDescriptor yX5_debt.desc).map (fun d => d.parameters.length) = some 2 := by decide +kernel
set_option maxHeartbeats 4000000 in
set_option maxRecDepth 100000 in
theorem mX5_debt (l0 : Launch) (D0 : va_G) (K0 : Nat → ClassId) (h : Nat → Nat) (σ : pS) (a1 : Int32) (a2 : Int32) {r : Int32} {u : pS} (hf : fX5_debt σ a1 a2 = some (r, u)) : Met l0 yX5_debt wsX5_debt ({ frames := 2, cells := 0, slots := 0, locals := 43 } : Room) (va_Pc [.ref (h 0), .int a1, .int a2] (pIn wM D0 K0 h σ)) (va_Qi (fun r' u' => r' = r ∧ u' = u) (pOut wM D0 K0 h) (pA wM h)) 0 0 (pA wM h) := by
  refine p_metI (lv := [(0, .ref (h 0)), (1, .int a1), (2, .int a2)]) (by decide +kernel) rfl rfl (Nat.le_of_ble_eq_true rfl) rfl (fun X C hret => ?_)
  unfold fX5_debt at hf
  refine g_aload_n C 0 dX5_debt_0 rfl rfl ?_
  refine g_iload_n C 1 dX5_debt_1 rfl rfl ?_
  obtain ⟨r2, hc1, hf⟩ := g_bind hf
  refine g_callVi C (mX5_isDebt l0 D0 K0 h σ a1 hc1) gX5_debt_X5_isDebt rfl rfl rfl ddX5_isDebt ⟨(Nat.le_of_ble_eq_true rfl), (Nat.le_of_ble_eq_true rfl)⟩ rfl (Nat.le_of_ble_eq_true rfl) rfl rfl rfl (Nat.le_of_ble_eq_true rfl) dX5_debt_2 ?_
  refine g_if_eq (tgt := 31) hf C dX5_debt_5 (by decide) (fun hf => ?_) (fun hf => ?_)
  · refine g_iconst C dX5_debt_31 ic_m1 ?_
    exact g_retiW hf hret dX5_debt_32
  · refine g_iload_n C 2 dX5_debt_8 rfl rfl ?_
    refine g_iconst C dX5_debt_9 ic_0 ?_
    refine g_iconst C dX5_debt_10 ic_4 ?_
    obtain ⟨r4, hc3, hf⟩ := g_bind hf
    refine g_callSi C (mX5_in l0 D0 K0 h σ a2 (0 : Int32) (4 : Int32) hc3) gX5_debt_X5_in rfl rfl rfl ddX5_in ⟨(Nat.le_of_ble_eq_true rfl), (Nat.le_of_ble_eq_true rfl)⟩ rfl rfl (Nat.le_of_ble_eq_true rfl) dX5_debt_11 ?_
    refine g_if_eq (tgt := 31) hf C dX5_debt_14 (by decide) (fun hf => ?_) (fun hf => ?_)
    · refine g_iconst C dX5_debt_31 ic_m1 ?_
      exact g_retiW hf hret dX5_debt_32
    · refine g_aload_n C 0 dX5_debt_17 rfl rfl ?_
      refine g_aload_n C 0 dX5_debt_18 rfl rfl ?_
      refine g_iload_n C 1 dX5_debt_19 rfl rfl ?_
      refine g_iload_n C 2 dX5_debt_20 rfl rfl ?_
      obtain ⟨r6, hc5, hf⟩ := g_bind hf
      refine g_callVi C (mX5_debtAt l0 D0 K0 h σ a1 a2 hc5) gX5_debt_X5_debtAt rfl rfl rfl ddX5_debtAt ⟨(Nat.le_of_ble_eq_true rfl), (Nat.le_of_ble_eq_true rfl)⟩ rfl (Nat.le_of_ble_eq_true rfl) rfl rfl rfl (Nat.le_of_ble_eq_true rfl) dX5_debt_21 ?_
      refine g_iconst C dX5_debt_24 ic_1 ?_
      obtain ⟨r8, σ9, hc7, hf⟩ := g_pbind hf
      refine g_callVi C (mX5_tells l0 D0 K0 h σ r6 (1 : Int32) hc7) gX5_debt_X5_tells rfl rfl rfl ddX5_tells ⟨(Nat.le_of_ble_eq_true rfl), (Nat.le_of_ble_eq_true rfl)⟩ rfl (Nat.le_of_ble_eq_true rfl) rfl rfl rfl (Nat.le_of_ble_eq_true rfl) dX5_debt_25 ?_
      refine g_goto (tgt := 32) C dX5_debt_28 (by decide) ?_
      exact g_retiW hf hret dX5_debt_32
/-! X5_law -/
theorem in_X5_law_X5 : ∀ q ∈ u_ws RX5 TX5 30, q ∈ wsX5_law := by decide +kernel
theorem lk_X5_law_0 : Cond.fieldLink RX5 146 "EmptyHouseModel" "lawNow" "I" ∈ wsX5_law := by decide +kernel
theorem ddX5_law : yX5_law.cls = RX5 ∧ yX5_law.cls ≠ "java/lang/invoke/MethodHandle" ∧ yX5_law.cls ≠ "java/lang/invoke/VarHandle" ∧ (parseMethodDescriptor yX5_law.desc).map (fun d => d.parameters.length) = some 1 := by decide +kernel
set_option maxHeartbeats 4000000 in
set_option maxRecDepth 100000 in
theorem mX5_law (l0 : Launch) (D0 : va_G) (K0 : Nat → ClassId) (h : Nat → Nat) (σ : pS) (a1 : Int32) {r : Int32} {u : pS} (hf : fX5_law σ a1 = some (r, u)) : Met l0 yX5_law wsX5_law ({ frames := 1, cells := 0, slots := 0, locals := 22 } : Room) (va_Pc [.ref (h 0), .int a1] (pIn wM D0 K0 h σ)) (va_Qi (fun r' u' => r' = r ∧ u' = u) (pOut wM D0 K0 h) (pA wM h)) 0 0 (pA wM h) := by
  refine p_metI (lv := [(0, .ref (h 0)), (1, .int a1)]) (by decide +kernel) rfl rfl (Nat.le_of_ble_eq_true rfl) rfl (fun X C hret => ?_)
  unfold fX5_law at hf
  refine g_iload_n C 1 dX5_law_0 rfl rfl ?_
  refine g_iconst C dX5_law_1 ic_0 ?_
  refine g_iconst C dX5_law_2 ic_3 ?_
  obtain ⟨r2, hc1, hf⟩ := g_bind hf
  refine g_callSi C (mX5_in l0 D0 K0 h σ a1 (0 : Int32) (3 : Int32) hc1) gX5_law_X5_in rfl rfl rfl ddX5_in ⟨(Nat.le_of_ble_eq_true rfl), (Nat.le_of_ble_eq_true rfl)⟩ rfl rfl (Nat.le_of_ble_eq_true rfl) dX5_law_3 ?_
  refine g_if_ne (tgt := 11) hf C dX5_law_6 (by decide) (fun hf => ?_) (fun hf => ?_)
  · refine g_aload_n C 0 dX5_law_11 rfl rfl ?_
    refine g_getI C in_X5_law_X5 (k := 14) lk_X5_law_0 rfl (Nat.le_of_ble_eq_true rfl) rfl (Nat.le_of_ble_eq_true rfl) rfl dX5_law_12 ?_
    refine g_leti hf (fun x3 hf => ?_)
    refine g_istore_n C [1, 2, 0] dX5_law_15 rfl (Nat.le_of_ble_eq_true rfl) rfl ?_
    refine g_aload_n C 0 dX5_law_16 rfl rfl ?_
    refine g_iload_n C 1 dX5_law_17 rfl rfl ?_
    refine g_putI C in_X5_law_X5 (k := 14) lk_X5_law_0 rfl (Nat.le_of_ble_eq_true rfl) rfl (Nat.le_of_ble_eq_true rfl) tyX5 tyX5_ok nmX5 rfl rfl rfl rfl dX5_law_18 ?_
    refine g_lets hf (fun σ4 hf => ?_)
    refine g_iload_n C 2 dX5_law_21 rfl rfl ?_
    exact g_retiW hf hret dX5_law_22
  · refine g_iconst C dX5_law_9 ic_m1 ?_
    exact g_retiW hf hret dX5_law_10
/-! X5_cards -/
theorem in_X5_cards_X5 : ∀ q ∈ u_ws RX5 TX5 30, q ∈ wsX5_cards := by decide +kernel
theorem lk_X5_cards_0 : Cond.fieldLink RX5 29 "EmptyHouseModel" "people" "[I" ∈ wsX5_cards := by decide +kernel
theorem ddX5_cards : yX5_cards.cls = RX5 ∧ yX5_cards.cls ≠ "java/lang/invoke/MethodHandle" ∧ yX5_cards.cls ≠ "java/lang/invoke/VarHandle" ∧ (parseMethodDescriptor yX5_cards.desc).map (fun d => d.parameters.length) = some 2 := by decide +kernel
set_option maxHeartbeats 4000000 in
set_option maxRecDepth 100000 in
theorem mX5_cards (l0 : Launch) (D0 : va_G) (K0 : Nat → ClassId) (h : Nat → Nat) (σ : pS) (a1 : Int32) (a2 : Int32) {r : Int32} {u : pS} (hf : fX5_cards σ a1 a2 = some (r, u)) : Met l0 yX5_cards wsX5_cards ({ frames := 2, cells := 0, slots := 0, locals := 43 } : Room) (va_Pc [.ref (h 0), .int a1, .int a2] (pIn wM D0 K0 h σ)) (va_Qi (fun r' u' => r' = r ∧ u' = u) (pOut wM D0 K0 h) (pA wM h)) 0 0 (pA wM h) := by
  refine p_metI (lv := [(0, .ref (h 0)), (1, .int a1), (2, .int a2)]) (by decide +kernel) rfl rfl (Nat.le_of_ble_eq_true rfl) rfl (fun X C hret => ?_)
  unfold fX5_cards at hf
  refine g_aload_n C 0 dX5_cards_0 rfl rfl ?_
  refine g_iload_n C 1 dX5_cards_1 rfl rfl ?_
  obtain ⟨r2, hc1, hf⟩ := g_bind hf
  refine g_callVi C (mX5_isOne l0 D0 K0 h σ a1 hc1) gX5_cards_X5_isOne rfl rfl rfl ddX5_isOne ⟨(Nat.le_of_ble_eq_true rfl), (Nat.le_of_ble_eq_true rfl)⟩ rfl (Nat.le_of_ble_eq_true rfl) rfl rfl rfl (Nat.le_of_ble_eq_true rfl) dX5_cards_2 ?_
  refine g_if_eq (tgt := 18) hf C dX5_cards_5 (by decide) (fun hf => ?_) (fun hf => ?_)
  · refine g_iconst C dX5_cards_18 ic_m1 ?_
    exact g_retiW hf hret dX5_cards_19
  · refine g_iload_n C 2 dX5_cards_8 rfl rfl ?_
    refine g_iconst C dX5_cards_9 ic_0 ?_
    refine g_bipush C dX5_cards_10 bp_99 ?_
    obtain ⟨r4, hc3, hf⟩ := g_bind hf
    refine g_callSi C (mX5_in l0 D0 K0 h σ a2 (0 : Int32) (99 : Int32) hc3) gX5_cards_X5_in rfl rfl rfl ddX5_in ⟨(Nat.le_of_ble_eq_true rfl), (Nat.le_of_ble_eq_true rfl)⟩ rfl rfl (Nat.le_of_ble_eq_true rfl) dX5_cards_12 ?_
    refine g_if_ne (tgt := 20) hf C dX5_cards_15 (by decide) (fun hf => ?_) (fun hf => ?_)
    · refine g_aload_n C 0 dX5_cards_20 rfl rfl ?_
      refine g_getC (n := 7) C in_X5_cards_X5 (k := 11) lk_X5_cards_0 rfl (Nat.le_of_ble_eq_true rfl) rfl (Nat.le_of_ble_eq_true rfl) rfl dX5_cards_21 ?_
      refine g_iconst C dX5_cards_24 ic_4 ?_
      refine g_iload_n C 1 dX5_cards_25 rfl rfl ?_
      refine g_imul C dX5_cards_26 ?_
      refine g_iconst C dX5_cards_27 ic_3 ?_
      refine g_iadd C dX5_cards_28 ?_
      refine g_iald hf C rfl (Nat.le_of_ble_eq_true rfl) dX5_cards_29 (fun hf => ?_)
      refine g_leti hf (fun x5 hf => ?_)
      refine g_istore_n C [1, 2, 3, 0] dX5_cards_30 rfl (Nat.le_of_ble_eq_true rfl) rfl ?_
      refine g_aload_n C 0 dX5_cards_31 rfl rfl ?_
      refine g_getC (n := 7) C in_X5_cards_X5 (k := 11) lk_X5_cards_0 rfl (Nat.le_of_ble_eq_true rfl) rfl (Nat.le_of_ble_eq_true rfl) rfl dX5_cards_32 ?_
      refine g_iconst C dX5_cards_35 ic_4 ?_
      refine g_iload_n C 1 dX5_cards_36 rfl rfl ?_
      refine g_imul C dX5_cards_37 ?_
      refine g_iconst C dX5_cards_38 ic_3 ?_
      refine g_iadd C dX5_cards_39 ?_
      refine g_iload_n C 2 dX5_cards_40 rfl rfl ?_
      refine g_iast hf C rfl (Nat.le_of_ble_eq_true rfl) dX5_cards_41 (fun hf => ?_)
      refine g_lets hf (fun σ6 hf => ?_)
      refine g_iload_n C 3 dX5_cards_42 rfl rfl ?_
      exact g_retiW hf hret dX5_cards_43
    · refine g_iconst C dX5_cards_18 ic_m1 ?_
      exact g_retiW hf hret dX5_cards_19
/-! X5_habit -/
theorem in_X5_habit_X5 : ∀ q ∈ u_ws RX5 TX5 30, q ∈ wsX5_habit := by decide +kernel
theorem lk_X5_habit_0 : Cond.fieldLink RX5 29 "EmptyHouseModel" "people" "[I" ∈ wsX5_habit := by decide +kernel
theorem ddX5_habit : yX5_habit.cls = RX5 ∧ yX5_habit.cls ≠ "java/lang/invoke/MethodHandle" ∧ yX5_habit.cls ≠ "java/lang/invoke/VarHandle" ∧ (parseMethodDescriptor yX5_habit.desc).map (fun d => d.parameters.length) = some 3 := by decide +kernel
set_option maxHeartbeats 4000000 in
set_option maxRecDepth 100000 in
theorem mX5_habit (l0 : Launch) (D0 : va_G) (K0 : Nat → ClassId) (h : Nat → Nat) (σ : pS) (a1 : Int32) (a2 : Int32) (a3 : Int32) {r : Int32} {u : pS} (hf : fX5_habit σ a1 a2 a3 = some (r, u)) : Met l0 yX5_habit wsX5_habit ({ frames := 2, cells := 0, slots := 0, locals := 43 } : Room) (va_Pc [.ref (h 0), .int a1, .int a2, .int a3] (pIn wM D0 K0 h σ)) (va_Qi (fun r' u' => r' = r ∧ u' = u) (pOut wM D0 K0 h) (pA wM h)) 0 0 (pA wM h) := by
  refine p_metI (lv := [(0, .ref (h 0)), (1, .int a1), (2, .int a2), (3, .int a3)]) (by decide +kernel) rfl rfl (Nat.le_of_ble_eq_true rfl) rfl (fun X C hret => ?_)
  unfold fX5_habit at hf
  refine g_aload_n C 0 dX5_habit_0 rfl rfl ?_
  refine g_iload_n C 1 dX5_habit_1 rfl rfl ?_
  obtain ⟨r2, hc1, hf⟩ := g_bind hf
  refine g_callVi C (mX5_isOne l0 D0 K0 h σ a1 hc1) gX5_habit_X5_isOne rfl rfl rfl ddX5_isOne ⟨(Nat.le_of_ble_eq_true rfl), (Nat.le_of_ble_eq_true rfl)⟩ rfl (Nat.le_of_ble_eq_true rfl) rfl rfl rfl (Nat.le_of_ble_eq_true rfl) dX5_habit_2 ?_
  refine g_if_eq (tgt := 24) hf C dX5_habit_5 (by decide) (fun hf => ?_) (fun hf => ?_)
  · refine g_iconst C dX5_habit_24 ic_m1 ?_
    exact g_retiW hf hret dX5_habit_25
  · refine g_iload_n C 2 dX5_habit_8 rfl rfl ?_
    obtain ⟨r4, hc3, hf⟩ := g_bind hf
    refine g_callSi C (mX5_isHour l0 D0 K0 h σ a2 hc3) gX5_habit_X5_isHour rfl rfl rfl ddX5_isHour ⟨(Nat.le_of_ble_eq_true rfl), (Nat.le_of_ble_eq_true rfl)⟩ rfl rfl (Nat.le_of_ble_eq_true rfl) dX5_habit_9 ?_
    refine g_if_eq (tgt := 24) hf C dX5_habit_12 (by decide) (fun hf => ?_) (fun hf => ?_)
    · refine g_iconst C dX5_habit_24 ic_m1 ?_
      exact g_retiW hf hret dX5_habit_25
    · refine g_iload_n C 3 dX5_habit_15 rfl rfl ?_
      refine g_iconst C dX5_habit_16 ic_0 ?_
      refine g_iconst C dX5_habit_17 ic_1 ?_
      obtain ⟨r6, hc5, hf⟩ := g_bind hf
      refine g_callSi C (mX5_in l0 D0 K0 h σ a3 (0 : Int32) (1 : Int32) hc5) gX5_habit_X5_in rfl rfl rfl ddX5_in ⟨(Nat.le_of_ble_eq_true rfl), (Nat.le_of_ble_eq_true rfl)⟩ rfl rfl (Nat.le_of_ble_eq_true rfl) dX5_habit_18 ?_
      refine g_if_ne (tgt := 26) hf C dX5_habit_21 (by decide) (fun hf => ?_) (fun hf => ?_)
      · refine g_aload_n C 0 dX5_habit_26 rfl rfl ?_
        refine g_iload_n C 1 dX5_habit_27 rfl rfl ?_
        refine g_iload_n C 2 dX5_habit_28 rfl rfl ?_
        obtain ⟨r8, hc7, hf⟩ := g_bind hf
        refine g_callVi C (mX5_isOut l0 D0 K0 h σ a1 a2 hc7) gX5_habit_X5_isOut rfl rfl rfl ddX5_isOut ⟨(Nat.le_of_ble_eq_true rfl), (Nat.le_of_ble_eq_true rfl)⟩ rfl (Nat.le_of_ble_eq_true rfl) rfl rfl rfl (Nat.le_of_ble_eq_true rfl) dX5_habit_29 ?_
        refine g_join (P := fun j => ∀ (y10 : Int32), j y10 = some (r, u) → G wM h X 40 [(0, .ref (h 0)), (1, .int a1), (2, .int a2), (3, .int a3)] [.int y10] σ) hf (fun y10 hf => ?_) (fun j9 hj9 hf => ?_)
        · refine g_istore C [1, 2, 3, 4, 0] dX5_habit_40 (Nat.le_of_ble_eq_true rfl) rfl ?_
          refine g_iload C 4 dX5_habit_42 rfl ?_
          refine g_iload_n C 3 dX5_habit_44 rfl rfl ?_
          refine g_icmp_eq (tgt := 64) hf C dX5_habit_45 (by decide) (fun hf => ?_) (fun hf => ?_)
          · refine g_iload C 4 dX5_habit_64 rfl ?_
            exact g_retiW hf hret dX5_habit_66
          · refine g_aload_n C 0 dX5_habit_48 rfl rfl ?_
            refine g_getC (n := 7) C in_X5_habit_X5 (k := 11) lk_X5_habit_0 rfl (Nat.le_of_ble_eq_true rfl) rfl (Nat.le_of_ble_eq_true rfl) rfl dX5_habit_49 ?_
            refine g_iconst C dX5_habit_52 ic_4 ?_
            refine g_iload_n C 1 dX5_habit_53 rfl rfl ?_
            refine g_imul C dX5_habit_54 ?_
            refine g_iconst C dX5_habit_55 ic_2 ?_
            refine g_iadd C dX5_habit_56 ?_
            refine g_dup2 C dX5_habit_57 rfl rfl ?_
            refine g_iald hf C rfl (Nat.le_of_ble_eq_true rfl) dX5_habit_58 (fun hf => ?_)
            refine g_iconst C dX5_habit_59 ic_1 ?_
            refine g_iload_n C 2 dX5_habit_60 rfl rfl ?_
            refine g_ishl C dX5_habit_61 ?_
            refine g_ixor C dX5_habit_62 ?_
            refine g_iast hf C rfl (Nat.le_of_ble_eq_true rfl) dX5_habit_63 (fun hf => ?_)
            refine g_lets hf (fun σ11 hf => ?_)
            refine g_iload C 4 dX5_habit_64 rfl ?_
            exact g_retiW hf hret dX5_habit_66
        · refine g_if_eq (tgt := 39) hf C dX5_habit_32 (by decide) (fun hf => ?_) (fun hf => ?_)
          · refine g_iconst C dX5_habit_39 ic_0 ?_
            exact hj9 (0 : Int32) hf
          · refine g_iconst C dX5_habit_35 ic_1 ?_
            refine g_goto (tgt := 40) C dX5_habit_36 (by decide) ?_
            exact hj9 (1 : Int32) hf
      · refine g_iconst C dX5_habit_24 ic_m1 ?_
        exact g_retiW hf hret dX5_habit_25
/-! X5_isBare -/
theorem ddX5_isBare : yX5_isBare.cls = RX5 ∧ yX5_isBare.cls ≠ "java/lang/invoke/MethodHandle" ∧ yX5_isBare.cls ≠ "java/lang/invoke/VarHandle" ∧ (parseMethodDescriptor yX5_isBare.desc).map (fun d => d.parameters.length) = some 2 := by decide +kernel
set_option maxHeartbeats 4000000 in
set_option maxRecDepth 100000 in
theorem mX5_isBare (l0 : Launch) (D0 : va_G) (K0 : Nat → ClassId) (h : Nat → Nat) (σ : pS) (a1 : Int32) (a2 : Int32) {r : Int32} (hf : fX5_isBare σ a1 a2 = some r) : Met l0 yX5_isBare wsX5_isBare ({ frames := 2, cells := 0, slots := 0, locals := 43 } : Room) (va_Pc [.ref (h 0), .int a1, .int a2] (pIn wM D0 K0 h σ)) (va_Qi (fun r' u' => r' = r ∧ u' = σ) (pOut wM D0 K0 h) (pA wM h)) 0 0 (pA wM h) := by
  refine p_metZ (lv := [(0, .ref (h 0)), (1, .int a1), (2, .int a2)]) (by decide +kernel) rfl rfl (Nat.le_of_ble_eq_true rfl) rfl (fun X C hret => ?_)
  unfold fX5_isBare at hf
  refine g_aload_n C 0 dX5_isBare_0 rfl rfl ?_
  refine g_iload_n C 1 dX5_isBare_1 rfl rfl ?_
  obtain ⟨r2, hc1, hf⟩ := g_bind hf
  refine g_callVi C (mX5_kind l0 D0 K0 h σ a1 hc1) gX5_isBare_X5_kind rfl rfl rfl ddX5_kind ⟨(Nat.le_of_ble_eq_true rfl), (Nat.le_of_ble_eq_true rfl)⟩ rfl (Nat.le_of_ble_eq_true rfl) rfl rfl rfl (Nat.le_of_ble_eq_true rfl) dX5_isBare_2 ?_
  refine g_swc hf (fun hx3 hf => ?_) (fun hn4 hf => ?_)
  · refine g_swin (tgt := 32) hx3 C dX5_isBare_5 (by decide) (by decide) rfl (by decide) ?_
    refine g_iconst C dX5_isBare_32 ic_0 ?_
    exact g_retz hf (by decide) hret dX5_isBare_33
  · refine g_swc hf (fun hx11 hf => ?_) (fun hn12 hf => ?_)
    · refine g_swin (tgt := 34) hx11 C dX5_isBare_5 (by decide) (by decide) rfl (by decide) ?_
      refine g_aload_n C 0 dX5_isBare_34 rfl rfl ?_
      refine g_iload_n C 1 dX5_isBare_35 rfl rfl ?_
      refine g_iload_n C 2 dX5_isBare_36 rfl rfl ?_
      obtain ⟨r6, hc5, hf⟩ := g_bind hf
      refine g_callVi C (mX5_isOut l0 D0 K0 h σ a1 a2 hc5) gX5_isBare_X5_isOut rfl rfl rfl ddX5_isOut ⟨(Nat.le_of_ble_eq_true rfl), (Nat.le_of_ble_eq_true rfl)⟩ rfl (Nat.le_of_ble_eq_true rfl) rfl rfl rfl (Nat.le_of_ble_eq_true rfl) dX5_isBare_37 ?_
      refine g_if_eq (tgt := 60) hf C dX5_isBare_40 (by decide) (fun hf => ?_) (fun hf => ?_)
      · refine g_iconst C dX5_isBare_60 ic_0 ?_
        exact g_retz hf (by decide) hret dX5_isBare_61
      · refine g_aload_n C 0 dX5_isBare_43 rfl rfl ?_
        refine g_aload_n C 0 dX5_isBare_44 rfl rfl ?_
        refine g_iload_n C 1 dX5_isBare_45 rfl rfl ?_
        obtain ⟨r8, hc7, hf⟩ := g_bind hf
        refine g_callVi C (mX5_with l0 D0 K0 h σ a1 hc7) gX5_isBare_X5_with rfl rfl rfl ddX5_with ⟨(Nat.le_of_ble_eq_true rfl), (Nat.le_of_ble_eq_true rfl)⟩ rfl (Nat.le_of_ble_eq_true rfl) rfl rfl rfl (Nat.le_of_ble_eq_true rfl) dX5_isBare_46 ?_
        refine g_iload_n C 2 dX5_isBare_49 rfl rfl ?_
        obtain ⟨r10, hc9, hf⟩ := g_bind hf
        refine g_callVi C (mX5_isOut l0 D0 K0 h σ r8 a2 hc9) gX5_isBare_X5_isOut rfl rfl rfl ddX5_isOut ⟨(Nat.le_of_ble_eq_true rfl), (Nat.le_of_ble_eq_true rfl)⟩ rfl (Nat.le_of_ble_eq_true rfl) rfl rfl rfl (Nat.le_of_ble_eq_true rfl) dX5_isBare_50 ?_
        refine g_if_eq (tgt := 60) hf C dX5_isBare_53 (by decide) (fun hf => ?_) (fun hf => ?_)
        · refine g_iconst C dX5_isBare_60 ic_0 ?_
          exact g_retz hf (by decide) hret dX5_isBare_61
        · refine g_iconst C dX5_isBare_56 ic_1 ?_
          refine g_goto (tgt := 61) C dX5_isBare_57 (by decide) ?_
          exact g_retz hf (by decide) hret dX5_isBare_61
    · refine g_swc hf (fun hx19 hf => ?_) (fun hn20 hf => ?_)
      · refine g_swin (tgt := 62) hx19 C dX5_isBare_5 (by decide) (by decide) rfl (by decide) ?_
        refine g_aload_n C 0 dX5_isBare_62 rfl rfl ?_
        refine g_iload_n C 1 dX5_isBare_63 rfl rfl ?_
        refine g_iload_n C 2 dX5_isBare_64 rfl rfl ?_
        obtain ⟨r14, hc13, hf⟩ := g_bind hf
        refine g_callVi C (mX5_isOut l0 D0 K0 h σ a1 a2 hc13) gX5_isBare_X5_isOut rfl rfl rfl ddX5_isOut ⟨(Nat.le_of_ble_eq_true rfl), (Nat.le_of_ble_eq_true rfl)⟩ rfl (Nat.le_of_ble_eq_true rfl) rfl rfl rfl (Nat.le_of_ble_eq_true rfl) dX5_isBare_65 ?_
        refine g_if_ne (tgt := 84) hf C dX5_isBare_68 (by decide) (fun hf => ?_) (fun hf => ?_)
        · refine g_iconst C dX5_isBare_84 ic_1 ?_
          refine g_goto (tgt := 89) C dX5_isBare_85 (by decide) ?_
          exact g_retz hf (by decide) hret dX5_isBare_89
        · refine g_aload_n C 0 dX5_isBare_71 rfl rfl ?_
          refine g_aload_n C 0 dX5_isBare_72 rfl rfl ?_
          refine g_iload_n C 1 dX5_isBare_73 rfl rfl ?_
          obtain ⟨r16, hc15, hf⟩ := g_bind hf
          refine g_callVi C (mX5_with l0 D0 K0 h σ a1 hc15) gX5_isBare_X5_with rfl rfl rfl ddX5_with ⟨(Nat.le_of_ble_eq_true rfl), (Nat.le_of_ble_eq_true rfl)⟩ rfl (Nat.le_of_ble_eq_true rfl) rfl rfl rfl (Nat.le_of_ble_eq_true rfl) dX5_isBare_74 ?_
          refine g_iload_n C 2 dX5_isBare_77 rfl rfl ?_
          obtain ⟨r18, hc17, hf⟩ := g_bind hf
          refine g_callVi C (mX5_isOut l0 D0 K0 h σ r16 a2 hc17) gX5_isBare_X5_isOut rfl rfl rfl ddX5_isOut ⟨(Nat.le_of_ble_eq_true rfl), (Nat.le_of_ble_eq_true rfl)⟩ rfl (Nat.le_of_ble_eq_true rfl) rfl rfl rfl (Nat.le_of_ble_eq_true rfl) dX5_isBare_78 ?_
          refine g_if_eq (tgt := 88) hf C dX5_isBare_81 (by decide) (fun hf => ?_) (fun hf => ?_)
          · refine g_iconst C dX5_isBare_88 ic_0 ?_
            exact g_retz hf (by decide) hret dX5_isBare_89
          · refine g_iconst C dX5_isBare_84 ic_1 ?_
            refine g_goto (tgt := 89) C dX5_isBare_85 (by decide) ?_
            exact g_retz hf (by decide) hret dX5_isBare_89
      · refine g_swout (tgt := 90) C dX5_isBare_5 (by have := lv_neT (a := 2) hn4 (by decide); have := lv_neT (a := 3) hn12 (by decide); have := lv_neT (a := 4) hn20 (by decide); omega) (by decide) ?_
        refine g_aload_n C 0 dX5_isBare_90 rfl rfl ?_
        refine g_iload_n C 1 dX5_isBare_91 rfl rfl ?_
        refine g_iload_n C 2 dX5_isBare_92 rfl rfl ?_
        obtain ⟨r22, hc21, hf⟩ := g_bind hf
        refine g_callVi C (mX5_isOut l0 D0 K0 h σ a1 a2 hc21) gX5_isBare_X5_isOut rfl rfl rfl ddX5_isOut ⟨(Nat.le_of_ble_eq_true rfl), (Nat.le_of_ble_eq_true rfl)⟩ rfl (Nat.le_of_ble_eq_true rfl) rfl rfl rfl (Nat.le_of_ble_eq_true rfl) dX5_isBare_93 ?_
        exact g_retzG hf hret dX5_isBare_96
/-! X5_isEmpty -/
theorem in_X5_isEmpty_X5 : ∀ q ∈ u_ws RX5 TX5 30, q ∈ wsX5_isEmpty := by decide +kernel
theorem lk_X5_isEmpty_0 : Cond.fieldLink RX5 146 "EmptyHouseModel" "lawNow" "I" ∈ wsX5_isEmpty := by decide +kernel
theorem ddX5_isEmpty : yX5_isEmpty.cls = RX5 ∧ yX5_isEmpty.cls ≠ "java/lang/invoke/MethodHandle" ∧ yX5_isEmpty.cls ≠ "java/lang/invoke/VarHandle" ∧ (parseMethodDescriptor yX5_isEmpty.desc).map (fun d => d.parameters.length) = some 2 := by decide +kernel
set_option maxHeartbeats 4000000 in
set_option maxRecDepth 100000 in
theorem mX5_isEmpty (l0 : Launch) (D0 : va_G) (K0 : Nat → ClassId) (h : Nat → Nat) (σ : pS) (a1 : Int32) (a2 : Int32) {r : Int32} (hf : fX5_isEmpty σ a1 a2 = some r) : Met l0 yX5_isEmpty wsX5_isEmpty ({ frames := 3, cells := 0, slots := 0, locals := 65 } : Room) (va_Pc [.ref (h 0), .int a1, .int a2] (pIn wM D0 K0 h σ)) (va_Qi (fun r' u' => r' = r ∧ u' = σ) (pOut wM D0 K0 h) (pA wM h)) 0 0 (pA wM h) := by
  refine p_metZ (lv := [(0, .ref (h 0)), (1, .int a1), (2, .int a2)]) (by decide +kernel) rfl rfl (Nat.le_of_ble_eq_true rfl) rfl (fun X C hret => ?_)
  unfold fX5_isEmpty at hf
  refine g_aload_n C 0 dX5_isEmpty_0 rfl rfl ?_
  refine g_iload_n C 1 dX5_isEmpty_1 rfl rfl ?_
  refine g_iload_n C 2 dX5_isEmpty_2 rfl rfl ?_
  obtain ⟨r2, hc1, hf⟩ := g_bind hf
  refine g_callVi C (mX5_isBare l0 D0 K0 h σ a1 a2 hc1) gX5_isEmpty_X5_isBare rfl rfl rfl ddX5_isBare ⟨(Nat.le_of_ble_eq_true rfl), (Nat.le_of_ble_eq_true rfl)⟩ rfl (Nat.le_of_ble_eq_true rfl) rfl rfl rfl (Nat.le_of_ble_eq_true rfl) dX5_isEmpty_3 ?_
  refine g_istore_n C [1, 2, 3, 0] dX5_isEmpty_6 rfl (Nat.le_of_ble_eq_true rfl) rfl ?_
  refine g_aload_n C 0 dX5_isEmpty_7 rfl rfl ?_
  refine g_getI C in_X5_isEmpty_X5 (k := 14) lk_X5_isEmpty_0 rfl (Nat.le_of_ble_eq_true rfl) rfl (Nat.le_of_ble_eq_true rfl) rfl dX5_isEmpty_8 ?_
  refine g_swc hf (fun hx3 hf => ?_) (fun hn4 hf => ?_)
  · refine g_swin (tgt := 36) hx3 C dX5_isEmpty_11 (by decide) (by decide) rfl (by decide) ?_
    refine g_iload_n C 3 dX5_isEmpty_36 rfl rfl ?_
    exact g_retzG hf hret dX5_isEmpty_37
  · refine g_swc hf (fun hx7 hf => ?_) (fun hn8 hf => ?_)
    · refine g_swin (tgt := 38) hx7 C dX5_isEmpty_11 (by decide) (by decide) rfl (by decide) ?_
      refine g_iload_n C 3 dX5_isEmpty_38 rfl rfl ?_
      refine g_if_eq (tgt := 55) hf C dX5_isEmpty_39 (by decide) (fun hf => ?_) (fun hf => ?_)
      · refine g_iconst C dX5_isEmpty_55 ic_0 ?_
        exact g_retz hf (by decide) hret dX5_isEmpty_56
      · refine g_aload_n C 0 dX5_isEmpty_42 rfl rfl ?_
        refine g_iload_n C 1 dX5_isEmpty_43 rfl rfl ?_
        refine g_iload_n C 2 dX5_isEmpty_44 rfl rfl ?_
        obtain ⟨r6, hc5, hf⟩ := g_bind hf
        refine g_callVi C (mX5_isDogIn l0 D0 K0 h σ a1 a2 hc5) gX5_isEmpty_X5_isDogIn rfl rfl rfl ddX5_isDogIn ⟨(Nat.le_of_ble_eq_true rfl), (Nat.le_of_ble_eq_true rfl)⟩ rfl (Nat.le_of_ble_eq_true rfl) rfl rfl rfl (Nat.le_of_ble_eq_true rfl) dX5_isEmpty_45 ?_
        refine g_if_ne (tgt := 55) hf C dX5_isEmpty_48 (by decide) (fun hf => ?_) (fun hf => ?_)
        · refine g_iconst C dX5_isEmpty_55 ic_0 ?_
          exact g_retz hf (by decide) hret dX5_isEmpty_56
        · refine g_iconst C dX5_isEmpty_51 ic_1 ?_
          refine g_goto (tgt := 56) C dX5_isEmpty_52 (by decide) ?_
          exact g_retz hf (by decide) hret dX5_isEmpty_56
    · refine g_swc hf (fun hx9 hf => ?_) (fun hn10 hf => ?_)
      · refine g_swin (tgt := 57) hx9 C dX5_isEmpty_11 (by decide) (by decide) rfl (by decide) ?_
        refine g_iload_n C 3 dX5_isEmpty_57 rfl rfl ?_
        refine g_if_eq (tgt := 71) hf C dX5_isEmpty_58 (by decide) (fun hf => ?_) (fun hf => ?_)
        · refine g_iconst C dX5_isEmpty_71 ic_0 ?_
          exact g_retz hf (by decide) hret dX5_isEmpty_72
        · refine g_iload_n C 2 dX5_isEmpty_61 rfl rfl ?_
          refine g_bipush C dX5_isEmpty_62 bp_8 ?_
          refine g_icmp_lt (tgt := 71) hf C dX5_isEmpty_64 (by decide) (fun hf => ?_) (fun hf => ?_)
          · refine g_iconst C dX5_isEmpty_71 ic_0 ?_
            exact g_retz hf (by decide) hret dX5_isEmpty_72
          · refine g_iconst C dX5_isEmpty_67 ic_1 ?_
            refine g_goto (tgt := 72) C dX5_isEmpty_68 (by decide) ?_
            exact g_retz hf (by decide) hret dX5_isEmpty_72
      · refine g_swout (tgt := 73) C dX5_isEmpty_11 (by have := lv_neT (a := 0) hn4 (by decide); have := lv_neT (a := 1) hn8 (by decide); have := lv_neT (a := 2) hn10 (by decide); omega) (by decide) ?_
        refine g_iload_n C 3 dX5_isEmpty_73 rfl rfl ?_
        refine g_if_ne (tgt := 81) hf C dX5_isEmpty_74 (by decide) (fun hf => ?_) (fun hf => ?_)
        · refine g_iconst C dX5_isEmpty_81 ic_0 ?_
          exact g_retz hf (by decide) hret dX5_isEmpty_82
        · refine g_iconst C dX5_isEmpty_77 ic_1 ?_
          refine g_goto (tgt := 82) C dX5_isEmpty_78 (by decide) ?_
          exact g_retz hf (by decide) hret dX5_isEmpty_82
/-! X5_empty -/
theorem ddX5_empty : yX5_empty.cls = RX5 ∧ yX5_empty.cls ≠ "java/lang/invoke/MethodHandle" ∧ yX5_empty.cls ≠ "java/lang/invoke/VarHandle" ∧ (parseMethodDescriptor yX5_empty.desc).map (fun d => d.parameters.length) = some 1 := by decide +kernel
set_option maxHeartbeats 4000000 in
set_option maxRecDepth 100000 in
theorem lX5_empty_14_ok {h : Nat → Nat} {X : Cx} {l0 : Launch} {D0 : va_G} {K0 : Nat → ClassId} (σ : pS) (p1 : Int32) {k45 : Int32 → Option Int32} {r : Int32} (C : Cok wM h X l0 ({ frames := 4, cells := 0, slots := 0, locals := 88 } : Room) D0 K0 cX5_empty 4 RX5 wsX5_empty) (hret : ∀ (pc : Nat) (lv' : List (Nat × Value)), decode cX5_empty pc = .ok (.ireturn, 1) → G wM h X pc lv' [.int r] σ) (hk45 : ∀ (z2 : Int32), k45 z2 = some r → G wM h X 45 [(2, .int z2)] [] σ) : ∀ (F : Nat) (v2 : Int32) (v3 : Int32), lX5_empty_14 σ p1 k45 F v2 v3 = some r → G wM h X 14 [(0, .ref (h 0)), (1, .int p1), (2, .int v2), (3, .int v3)] [] σ := by
  intro F
  induction F with
  | zero => intro v2 v3 hf; exact absurd hf (by simp [lX5_empty_14])
  | succ F ih =>
    intro v2 v3 hf
    rw [lX5_empty_14.eq_2] at hf
    refine g_iload_n C 3 dX5_empty_14 rfl rfl ?_
    refine g_bipush C dX5_empty_15 bp_12 ?_
    refine g_icmp_ge (tgt := 45) hf C dX5_empty_17 (by decide) (fun hf => ?_) (fun hf => ?_)
    · refine g_lv [2] rfl ?_
      exact hk45 v2 hf
    · refine g_iload_n C 2 dX5_empty_20 rfl rfl ?_
      refine g_aload_n C 0 dX5_empty_21 rfl rfl ?_
      refine g_iload_n C 1 dX5_empty_22 rfl rfl ?_
      refine g_iload_n C 3 dX5_empty_23 rfl rfl ?_
      obtain ⟨r4, hc3, hf⟩ := g_bind hf
      refine g_callVi C (mX5_isEmpty l0 D0 K0 h σ p1 v3 hc3) gX5_empty_X5_isEmpty rfl rfl rfl ddX5_isEmpty ⟨(Nat.le_of_ble_eq_true rfl), (Nat.le_of_ble_eq_true rfl)⟩ rfl (Nat.le_of_ble_eq_true rfl) rfl rfl rfl (Nat.le_of_ble_eq_true rfl) dX5_empty_24 ?_
      refine g_join (P := fun j => ∀ (y6 : Int32), j y6 = some r → G wM h X 37 [(0, .ref (h 0)), (1, .int p1), (3, .int v3)] [.int y6, .int v2] σ) hf (fun y6 hf => ?_) (fun j5 hj5 hf => ?_)
      · refine g_ior C dX5_empty_37 ?_
        refine g_leti hf (fun x7 hf => ?_)
        refine g_istore_n C [1, 2, 0, 3] dX5_empty_38 rfl (Nat.le_of_ble_eq_true rfl) rfl ?_
        refine g_iinc C 3 [1, 2, 3, 0] dX5_empty_39 rfl ic_1 (Nat.le_of_ble_eq_true rfl) rfl ?_
        refine g_goto (tgt := 14) C dX5_empty_42 (by decide) ?_
        exact ih x7 (v3 + (1 : Int32)) hf
      · refine g_if_eq (tgt := 36) hf C dX5_empty_27 (by decide) (fun hf => ?_) (fun hf => ?_)
        · refine g_iconst C dX5_empty_36 ic_0 ?_
          refine g_lv [0, 1, 3] rfl ?_
          exact hj5 (0 : Int32) hf
        · refine g_iconst C dX5_empty_30 ic_1 ?_
          refine g_iload_n C 3 dX5_empty_31 rfl rfl ?_
          refine g_ishl C dX5_empty_32 ?_
          refine g_goto (tgt := 37) C dX5_empty_33 (by decide) ?_
          refine g_lv [0, 1, 3] rfl ?_
          exact hj5 ((1 : Int32) <<< (v3 &&& 31)) hf
set_option maxHeartbeats 4000000 in
set_option maxRecDepth 100000 in
theorem mX5_empty (l0 : Launch) (D0 : va_G) (K0 : Nat → ClassId) (h : Nat → Nat) (σ : pS) (a1 : Int32) {r : Int32} (hf : fX5_empty σ a1 = some r) : Met l0 yX5_empty wsX5_empty ({ frames := 4, cells := 0, slots := 0, locals := 88 } : Room) (va_Pc [.ref (h 0), .int a1] (pIn wM D0 K0 h σ)) (va_Qi (fun r' u' => r' = r ∧ u' = σ) (pOut wM D0 K0 h) (pA wM h)) 0 0 (pA wM h) := by
  refine p_metI (lv := [(0, .ref (h 0)), (1, .int a1)]) (by decide +kernel) rfl rfl (Nat.le_of_ble_eq_true rfl) rfl (fun X C hret => ?_)
  unfold fX5_empty at hf
  refine g_aload_n C 0 dX5_empty_0 rfl rfl ?_
  refine g_iload_n C 1 dX5_empty_1 rfl rfl ?_
  obtain ⟨r2, hc1, hf⟩ := g_bind hf
  refine g_callVi C (mX5_isOne l0 D0 K0 h σ a1 hc1) gX5_empty_X5_isOne rfl rfl rfl ddX5_isOne ⟨(Nat.le_of_ble_eq_true rfl), (Nat.le_of_ble_eq_true rfl)⟩ rfl (Nat.le_of_ble_eq_true rfl) rfl rfl rfl (Nat.le_of_ble_eq_true rfl) dX5_empty_2 ?_
  refine g_if_ne (tgt := 10) hf C dX5_empty_5 (by decide) (fun hf => ?_) (fun hf => ?_)
  · refine g_iconst C dX5_empty_10 ic_0 ?_
    refine g_istore_n C [1, 2, 0] dX5_empty_11 rfl (Nat.le_of_ble_eq_true rfl) rfl ?_
    refine g_iconst C dX5_empty_12 ic_0 ?_
    refine g_istore_n C [1, 2, 3, 0] dX5_empty_13 rfl (Nat.le_of_ble_eq_true rfl) rfl ?_
    refine lX5_empty_14_ok σ a1 C hret (fun y8 hf => ?_) FU (0 : Int32) (0 : Int32) hf
    refine g_iload_n C 0 dX5_empty_45 rfl rfl ?_
    exact g_reti hf hret dX5_empty_46
  · refine g_iconst C dX5_empty_8 ic_m1 ?_
    exact g_reti hf hret dX5_empty_9
