/-! X4_whatIsAmiss -/
theorem in_X4_whatIsAmiss_X3 : ∀ q ∈ u_ws RX3 TX3 11, q ∈ wsX4_whatIsAmiss := by decide +kernel
theorem in_X4_whatIsAmiss_X4 : ∀ q ∈ u_ws RX4 TX4 13, q ∈ wsX4_whatIsAmiss := by decide +kernel
theorem lk_X4_whatIsAmiss_0 : Cond.fieldLink RX4 53 "EmptyHouse" "live" "LEmptyHouse$Village;" ∈ wsX4_whatIsAmiss := by decide +kernel
theorem lk_X4_whatIsAmiss_1 : Cond.fieldLink RX4 268 "EmptyHouse$Village" "debtor" "[I" ∈ wsX4_whatIsAmiss := by decide +kernel
theorem lk_X4_whatIsAmiss_2 : Cond.fieldLink RX4 331 "EmptyHouse$Village" "creditor" "[I" ∈ wsX4_whatIsAmiss := by decide +kernel
theorem ddX4_whatIsAmiss : yX4_whatIsAmiss.cls = RX4 ∧ yX4_whatIsAmiss.cls ≠ "java/lang/invoke/MethodHandle" ∧ yX4_whatIsAmiss.cls ≠ "java/lang/invoke/VarHandle" ∧ (parseMethodDescriptor yX4_whatIsAmiss.desc).map (fun d => d.parameters.length) = some 2 := by decide +kernel
set_option maxHeartbeats 4000000 in
set_option maxRecDepth 100000 in
theorem lX4_whatIsAmiss_40_ok {h : Nat → Nat} {X : Cx} {l0 : Launch} {D0 : va_G} {K0 : Nat → ClassId} (σ : pS) (p1 : Nat) (p2 : Int32) (p3 : Int32) {k109 : Int32 → Option Int32} {r : Int32} (C : Cok wX h X l0 ({ frames := 4, cells := 0, slots := 0, locals := 90 } : Room) D0 K0 cX4_whatIsAmiss 6 RX4 wsX4_whatIsAmiss) (hret : ∀ (pc : Nat) (lv' : List (Nat × Value)), decode cX4_whatIsAmiss pc = .ok (.ireturn, 1) → G wX h X pc lv' [.int r] σ) (hk109 : ∀ (z4 : Int32), k109 z4 = some r → G wX h X 109 [(4, .int z4)] [] σ) : ∀ (F : Nat) (v4 : Int32) (v5 : Int32), lX4_whatIsAmiss_40 σ p1 p2 p3 k109 F v4 v5 = some r → G wX h X 40 [(0, .ref (h 0)), (1, .ref (h p1)), (2, .int p2), (3, .int p3), (4, .int v4), (5, .int v5)] [] σ := by
  intro F
  induction F with
  | zero => intro v4 v5 hf; exact absurd hf (by simp [lX4_whatIsAmiss_40])
  | succ F ih =>
    intro v4 v5 hf
    rw [lX4_whatIsAmiss_40.eq_2] at hf
    refine g_iload C 5 dX4_whatIsAmiss_40 rfl ?_
    refine g_iload_n C 2 dX4_whatIsAmiss_42 rfl rfl ?_
    refine g_icmp_ge (tgt := 109) hf C dX4_whatIsAmiss_43 (by decide) (fun hf => ?_) (fun hf => ?_)
    · refine g_lv [4] rfl ?_
      exact hk109 v4 hf
    · refine g_aload_n C 1 dX4_whatIsAmiss_46 rfl rfl ?_
      refine g_iload C 5 dX4_whatIsAmiss_47 rfl ?_
      obtain ⟨hg11, hf⟩ := g_guard hf
      obtain ⟨b12, he13, hl14⟩ := isA_spec hg11
      refine g_iald hf C he13 hl14 dX4_whatIsAmiss_49 (fun hf => ?_)
      refine g_iload_n C 3 dX4_whatIsAmiss_50 rfl rfl ?_
      refine g_icmp_ne (tgt := 103) hf C dX4_whatIsAmiss_51 (by decide) (fun hf => ?_) (fun hf => ?_)
      · refine g_iinc C 5 [1, 2, 3, 4, 5, 0] dX4_whatIsAmiss_103 rfl ic_1 (Nat.le_of_ble_eq_true rfl) rfl ?_
        refine g_goto (tgt := 40) C dX4_whatIsAmiss_106 (by decide) ?_
        exact ih v4 (v5 + (1 : Int32)) hf
      · refine g_aload_n C 0 dX4_whatIsAmiss_54 rfl rfl ?_
        refine g_getR C in_X4_whatIsAmiss_X4 (k := 8) lk_X4_whatIsAmiss_0 rfl (Nat.le_of_ble_eq_true rfl) rfl (Nat.le_of_ble_eq_true rfl) rfl dX4_whatIsAmiss_55 ?_
        obtain ⟨hg15, hf⟩ := g_guard hf
        refine g_getC (n := (pR σ 0 8) + 5) C in_X4_whatIsAmiss_X3 (k := 7) lk_X4_whatIsAmiss_1 rfl (Nat.le_of_ble_eq_true rfl) (shV hg15) (ltV hg15) rfl dX4_whatIsAmiss_58 ?_
        refine g_iload C 5 dX4_whatIsAmiss_61 rfl ?_
        refine g_iald hf C (shV5 hg15).1 (shV5 hg15).2 dX4_whatIsAmiss_63 (fun hf => ?_)
        refine g_aload_n C 0 dX4_whatIsAmiss_64 rfl rfl ?_
        refine g_getR C in_X4_whatIsAmiss_X4 (k := 8) lk_X4_whatIsAmiss_0 rfl (Nat.le_of_ble_eq_true rfl) rfl (Nat.le_of_ble_eq_true rfl) rfl dX4_whatIsAmiss_65 ?_
        refine g_getC (n := (pR σ 0 8) + 5) C in_X4_whatIsAmiss_X3 (k := 7) lk_X4_whatIsAmiss_1 rfl (Nat.le_of_ble_eq_true rfl) (shV hg15) (ltV hg15) rfl dX4_whatIsAmiss_68 ?_
        refine g_iload_n C 2 dX4_whatIsAmiss_71 rfl rfl ?_
        refine g_iald hf C (shV5 hg15).1 (shV5 hg15).2 dX4_whatIsAmiss_72 (fun hf => ?_)
        refine g_icmp_ne (tgt := 78) hf C dX4_whatIsAmiss_73 (by decide) (fun hf => ?_) (fun hf => ?_)
        · refine g_aload_n C 0 dX4_whatIsAmiss_78 rfl rfl ?_
          refine g_getR C in_X4_whatIsAmiss_X4 (k := 8) lk_X4_whatIsAmiss_0 rfl (Nat.le_of_ble_eq_true rfl) rfl (Nat.le_of_ble_eq_true rfl) rfl dX4_whatIsAmiss_79 ?_
          refine g_getC (n := (pR σ 0 8) + 6) C in_X4_whatIsAmiss_X3 (k := 8) lk_X4_whatIsAmiss_2 rfl (Nat.le_of_ble_eq_true rfl) (shV hg15) (ltV hg15) rfl dX4_whatIsAmiss_82 ?_
          refine g_iload C 5 dX4_whatIsAmiss_85 rfl ?_
          refine g_iald hf C (shV6 hg15).1 (shV6 hg15).2 dX4_whatIsAmiss_87 (fun hf => ?_)
          refine g_aload_n C 0 dX4_whatIsAmiss_88 rfl rfl ?_
          refine g_getR C in_X4_whatIsAmiss_X4 (k := 8) lk_X4_whatIsAmiss_0 rfl (Nat.le_of_ble_eq_true rfl) rfl (Nat.le_of_ble_eq_true rfl) rfl dX4_whatIsAmiss_89 ?_
          refine g_getC (n := (pR σ 0 8) + 6) C in_X4_whatIsAmiss_X3 (k := 8) lk_X4_whatIsAmiss_2 rfl (Nat.le_of_ble_eq_true rfl) (shV hg15) (ltV hg15) rfl dX4_whatIsAmiss_92 ?_
          refine g_iload_n C 2 dX4_whatIsAmiss_95 rfl rfl ?_
          refine g_iald hf C (shV6 hg15).1 (shV6 hg15).2 dX4_whatIsAmiss_96 (fun hf => ?_)
          refine g_icmp_ne (tgt := 103) hf C dX4_whatIsAmiss_97 (by decide) (fun hf => ?_) (fun hf => ?_)
          · refine g_iinc C 5 [1, 2, 3, 4, 5, 0] dX4_whatIsAmiss_103 rfl ic_1 (Nat.le_of_ble_eq_true rfl) rfl ?_
            refine g_goto (tgt := 40) C dX4_whatIsAmiss_106 (by decide) ?_
            exact ih v4 (v5 + (1 : Int32)) hf
          · refine g_iconst C dX4_whatIsAmiss_100 ic_1 ?_
            refine g_istore C [1, 2, 3, 4, 0, 5] dX4_whatIsAmiss_101 (Nat.le_of_ble_eq_true rfl) rfl ?_
            refine g_iinc C 5 [1, 2, 3, 4, 5, 0] dX4_whatIsAmiss_103 rfl ic_1 (Nat.le_of_ble_eq_true rfl) rfl ?_
            refine g_goto (tgt := 40) C dX4_whatIsAmiss_106 (by decide) ?_
            exact ih (1 : Int32) (v5 + (1 : Int32)) hf
        · refine g_iconst C dX4_whatIsAmiss_76 ic_2 ?_
          exact g_reti hf hret dX4_whatIsAmiss_77
set_option maxHeartbeats 4000000 in
set_option maxRecDepth 100000 in
theorem mX4_whatIsAmiss (l0 : Launch) (D0 : va_G) (K0 : Nat → ClassId) (h : Nat → Nat) (σ : pS) (a1 : Nat) (a2 : Int32) {r : Int32} (hf : fX4_whatIsAmiss σ a1 a2 = some r) : Met l0 yX4_whatIsAmiss wsX4_whatIsAmiss ({ frames := 4, cells := 0, slots := 0, locals := 90 } : Room) (va_Pc [.ref (h 0), .ref (h a1), .int a2] (pIn wX D0 K0 h σ)) (va_Qi (fun r' u' => r' = r ∧ u' = σ) (pOut wX D0 K0 h) (pA wX h)) 0 0 (pA wX h) := by
  refine p_metI (lv := [(0, .ref (h 0)), (1, .ref (h a1)), (2, .int a2)]) (by decide +kernel) rfl rfl (Nat.le_of_ble_eq_true rfl) rfl (fun X C hret => ?_)
  unfold fX4_whatIsAmiss at hf
  refine g_aload_n C 1 dX4_whatIsAmiss_0 rfl rfl ?_
  refine g_iload_n C 2 dX4_whatIsAmiss_1 rfl rfl ?_
  obtain ⟨hg1, hf⟩ := g_guard hf
  obtain ⟨b2, he3, hl4⟩ := isA_spec hg1
  refine g_iald hf C he3 hl4 dX4_whatIsAmiss_2 (fun hf => ?_)
  refine g_leti hf (fun x5 hf => ?_)
  refine g_istore_n C [1, 2, 3, 0] dX4_whatIsAmiss_3 rfl (Nat.le_of_ble_eq_true rfl) rfl ?_
  refine g_iload_n C 3 dX4_whatIsAmiss_4 rfl rfl ?_
  refine g_bipush C dX4_whatIsAmiss_5 bp_m9 ?_
  refine g_icmp_ne (tgt := 12) hf C dX4_whatIsAmiss_7 (by decide) (fun hf => ?_) (fun hf => ?_)
  · refine g_aload_n C 0 dX4_whatIsAmiss_12 rfl rfl ?_
    refine g_getR C in_X4_whatIsAmiss_X4 (k := 8) lk_X4_whatIsAmiss_0 rfl (Nat.le_of_ble_eq_true rfl) rfl (Nat.le_of_ble_eq_true rfl) rfl dX4_whatIsAmiss_13 ?_
    refine g_iload_n C 2 dX4_whatIsAmiss_16 rfl rfl ?_
    refine g_iload_n C 3 dX4_whatIsAmiss_17 rfl rfl ?_
    refine g_aload_n C 0 dX4_whatIsAmiss_18 rfl rfl ?_
    refine g_getR C in_X4_whatIsAmiss_X4 (k := 8) lk_X4_whatIsAmiss_0 rfl (Nat.le_of_ble_eq_true rfl) rfl (Nat.le_of_ble_eq_true rfl) rfl dX4_whatIsAmiss_19 ?_
    refine g_iload_n C 3 dX4_whatIsAmiss_22 rfl rfl ?_
    obtain ⟨hg6, hf⟩ := g_guard hf
    obtain ⟨r8, hc7, hf⟩ := g_bind hf
    refine g_callVi C (mX3_peopleOut l0 D0 K0 h σ (pR σ 0 8) x5 hc7) gX4_whatIsAmiss_X3_peopleOut rfl rfl rfl ddX3_peopleOut ⟨(Nat.le_of_ble_eq_true rfl), (Nat.le_of_ble_eq_true rfl)⟩ (shV hg6) (ltV hg6) rfl rfl rfl (Nat.le_of_ble_eq_true rfl) dX4_whatIsAmiss_23 ?_
    obtain ⟨r10, hc9, hf⟩ := g_bind hf
    refine g_callVi C (mX3_isPayable l0 D0 K0 h σ (pR σ 0 8) a2 x5 r8 hc9) gX4_whatIsAmiss_X3_isPayable rfl rfl rfl ddX3_isPayable ⟨(Nat.le_of_ble_eq_true rfl), (Nat.le_of_ble_eq_true rfl)⟩ (shV hg6) (ltV hg6) rfl rfl rfl (Nat.le_of_ble_eq_true rfl) dX4_whatIsAmiss_26 ?_
    refine g_if_ne (tgt := 34) hf C dX4_whatIsAmiss_29 (by decide) (fun hf => ?_) (fun hf => ?_)
    · refine g_iconst C dX4_whatIsAmiss_34 ic_0 ?_
      refine g_istore C [1, 2, 3, 4, 0] dX4_whatIsAmiss_35 (Nat.le_of_ble_eq_true rfl) rfl ?_
      refine g_iconst C dX4_whatIsAmiss_37 ic_0 ?_
      refine g_istore C [1, 2, 3, 4, 5, 0] dX4_whatIsAmiss_38 (Nat.le_of_ble_eq_true rfl) rfl ?_
      refine lX4_whatIsAmiss_40_ok σ a1 a2 x5 C hret (fun y16 hf => ?_) FU (0 : Int32) (0 : Int32) hf
      refine g_iload C 0 dX4_whatIsAmiss_109 rfl ?_
      refine g_if_eq (tgt := 118) hf C dX4_whatIsAmiss_111 (by decide) (fun hf => ?_) (fun hf => ?_)
      · refine g_iconst C dX4_whatIsAmiss_118 ic_0 ?_
        exact g_reti hf hret dX4_whatIsAmiss_119
      · refine g_iconst C dX4_whatIsAmiss_114 ic_3 ?_
        refine g_goto (tgt := 119) C dX4_whatIsAmiss_115 (by decide) ?_
        exact g_reti hf hret dX4_whatIsAmiss_119
    · refine g_iconst C dX4_whatIsAmiss_32 ic_1 ?_
      exact g_reti hf hret dX4_whatIsAmiss_33
  · refine g_iconst C dX4_whatIsAmiss_10 ic_0 ?_
    exact g_reti hf hret dX4_whatIsAmiss_11
/-! X4_firstAmiss -/
theorem in_X4_firstAmiss_X3 : ∀ q ∈ u_ws RX3 TX3 11, q ∈ wsX4_firstAmiss := by decide +kernel
theorem in_X4_firstAmiss_X4 : ∀ q ∈ u_ws RX4 TX4 13, q ∈ wsX4_firstAmiss := by decide +kernel
theorem lk_X4_firstAmiss_0 : Cond.fieldLink RX4 53 "EmptyHouse" "live" "LEmptyHouse$Village;" ∈ wsX4_firstAmiss := by decide +kernel
theorem lk_X4_firstAmiss_1 : Cond.fieldLink RX4 184 "EmptyHouse$Village" "debts" "I" ∈ wsX4_firstAmiss := by decide +kernel
theorem ddX4_firstAmiss : yX4_firstAmiss.cls = RX4 ∧ yX4_firstAmiss.cls ≠ "java/lang/invoke/MethodHandle" ∧ yX4_firstAmiss.cls ≠ "java/lang/invoke/VarHandle" ∧ (parseMethodDescriptor yX4_firstAmiss.desc).map (fun d => d.parameters.length) = some 1 := by decide +kernel
set_option maxHeartbeats 4000000 in
set_option maxRecDepth 100000 in
theorem lX4_firstAmiss_2_ok {h : Nat → Nat} {X : Cx} {l0 : Launch} {D0 : va_G} {K0 : Nat → ClassId} (σ : pS) (p1 : Nat) {k30 : Option Int32} {r : Int32} (C : Cok wX h X l0 ({ frames := 5, cells := 0, slots := 0, locals := 115 } : Room) D0 K0 cX4_firstAmiss 3 RX4 wsX4_firstAmiss) (hret : ∀ (pc : Nat) (lv' : List (Nat × Value)), decode cX4_firstAmiss pc = .ok (.ireturn, 1) → G wX h X pc lv' [.int r] σ) (hk30 :  k30 = some r → G wX h X 30 [] [] σ) : ∀ (F : Nat) (v2 : Int32), lX4_firstAmiss_2 σ p1 k30 F v2 = some r → G wX h X 2 [(0, .ref (h 0)), (1, .ref (h p1)), (2, .int v2)] [] σ := by
  intro F
  induction F with
  | zero => intro v2 hf; exact absurd hf (by simp [lX4_firstAmiss_2])
  | succ F ih =>
    intro v2 hf
    rw [lX4_firstAmiss_2.eq_2] at hf
    refine g_iload_n C 2 dX4_firstAmiss_2 rfl rfl ?_
    refine g_aload_n C 0 dX4_firstAmiss_3 rfl rfl ?_
    refine g_getR C in_X4_firstAmiss_X4 (k := 8) lk_X4_firstAmiss_0 rfl (Nat.le_of_ble_eq_true rfl) rfl (Nat.le_of_ble_eq_true rfl) rfl dX4_firstAmiss_4 ?_
    obtain ⟨hg1, hf⟩ := g_guard hf
    refine g_getI C in_X4_firstAmiss_X3 (k := 1) lk_X4_firstAmiss_1 rfl (Nat.le_of_ble_eq_true rfl) (shV hg1) (ltV hg1) rfl dX4_firstAmiss_7 ?_
    refine g_icmp_ge (tgt := 30) hf C dX4_firstAmiss_10 (by decide) (fun hf => ?_) (fun hf => ?_)
    · refine g_lv [] rfl ?_
      exact hk30 hf
    · refine g_aload_n C 0 dX4_firstAmiss_13 rfl rfl ?_
      refine g_aload_n C 1 dX4_firstAmiss_14 rfl rfl ?_
      refine g_iload_n C 2 dX4_firstAmiss_15 rfl rfl ?_
      obtain ⟨r3, hc2, hf⟩ := g_bind hf
      refine g_callVi C (mX4_whatIsAmiss l0 D0 K0 h σ p1 v2 hc2) gX4_firstAmiss_X4_whatIsAmiss rfl rfl rfl ddX4_whatIsAmiss ⟨(Nat.le_of_ble_eq_true rfl), (Nat.le_of_ble_eq_true rfl)⟩ rfl (Nat.le_of_ble_eq_true rfl) rfl rfl rfl (Nat.le_of_ble_eq_true rfl) dX4_firstAmiss_16 ?_
      refine g_if_eq (tgt := 24) hf C dX4_firstAmiss_19 (by decide) (fun hf => ?_) (fun hf => ?_)
      · refine g_iinc C 2 [1, 2, 0] dX4_firstAmiss_24 rfl ic_1 (Nat.le_of_ble_eq_true rfl) rfl ?_
        refine g_goto (tgt := 2) C dX4_firstAmiss_27 (by decide) ?_
        exact ih (v2 + (1 : Int32)) hf
      · refine g_iload_n C 2 dX4_firstAmiss_22 rfl rfl ?_
        exact g_reti hf hret dX4_firstAmiss_23
set_option maxHeartbeats 4000000 in
set_option maxRecDepth 100000 in
theorem mX4_firstAmiss (l0 : Launch) (D0 : va_G) (K0 : Nat → ClassId) (h : Nat → Nat) (σ : pS) (a1 : Nat) {r : Int32} (hf : fX4_firstAmiss σ a1 = some r) : Met l0 yX4_firstAmiss wsX4_firstAmiss ({ frames := 5, cells := 0, slots := 0, locals := 115 } : Room) (va_Pc [.ref (h 0), .ref (h a1)] (pIn wX D0 K0 h σ)) (va_Qi (fun r' u' => r' = r ∧ u' = σ) (pOut wX D0 K0 h) (pA wX h)) 0 0 (pA wX h) := by
  refine p_metI (lv := [(0, .ref (h 0)), (1, .ref (h a1))]) (by decide +kernel) rfl rfl (Nat.le_of_ble_eq_true rfl) rfl (fun X C hret => ?_)
  unfold fX4_firstAmiss at hf
  refine g_iconst C dX4_firstAmiss_0 ic_0 ?_
  refine g_istore_n C [1, 2, 0] dX4_firstAmiss_1 rfl (Nat.le_of_ble_eq_true rfl) rfl ?_
  refine lX4_firstAmiss_2_ok σ a1 C hret (fun hf => ?_) FU (0 : Int32) hf
  refine g_bipush C dX4_firstAmiss_30 bp_m9 ?_
  exact g_reti hf hret dX4_firstAmiss_32
/-! X4_judge -/
theorem in_X4_judge_X4 : ∀ q ∈ u_ws RX4 TX4 13, q ∈ wsX4_judge := by decide +kernel
theorem lk_X4_judge_0 : Cond.fieldLink RX4 11 "EmptyHouse" "rows" "[[I" ∈ wsX4_judge := by decide +kernel
theorem lk_X4_judge_1 : Cond.fieldLink RX4 57 "EmptyHouse" "told" "I" ∈ wsX4_judge := by decide +kernel
theorem ddX4_judge : yX4_judge.cls = RX4 ∧ yX4_judge.cls ≠ "java/lang/invoke/MethodHandle" ∧ yX4_judge.cls ≠ "java/lang/invoke/VarHandle" ∧ (parseMethodDescriptor yX4_judge.desc).map (fun d => d.parameters.length) = some 1 := by decide +kernel
set_option maxHeartbeats 4000000 in
set_option maxRecDepth 100000 in
theorem mX4_judge (l0 : Launch) (D0 : va_G) (K0 : Nat → ClassId) (h : Nat → Nat) (σ : pS) (a1 : Int32) {r : Int32} {u : pS} (hf : fX4_judge σ a1 = some (r, u)) : Met l0 yX4_judge wsX4_judge ({ frames := 6, cells := 0, slots := 0, locals := 137 } : Room) (va_Pc [.ref (h 0), .int a1] (pIn wX D0 K0 h σ)) (va_Qi (fun r' u' => r' = r ∧ u' = u) (pOut wX D0 K0 h) (pA wX h)) 0 0 (pA wX h) := by
  refine p_metI (lv := [(0, .ref (h 0)), (1, .int a1)]) (by decide +kernel) rfl rfl (Nat.le_of_ble_eq_true rfl) rfl (fun X C hret => ?_)
  unfold fX4_judge at hf
  refine g_aload_n C 0 dX4_judge_0 rfl rfl ?_
  refine g_iload_n C 1 dX4_judge_1 rfl rfl ?_
  obtain ⟨r2, σ3, hc1, hf⟩ := g_pbind hf
  refine g_callVi C (mX4_refuseRound l0 D0 K0 h σ a1 hc1) gX4_judge_X4_refuseRound rfl rfl rfl ddX4_refuseRound ⟨(Nat.le_of_ble_eq_true rfl), (Nat.le_of_ble_eq_true rfl)⟩ rfl (Nat.le_of_ble_eq_true rfl) rfl rfl rfl (Nat.le_of_ble_eq_true rfl) dX4_judge_2 ?_
  refine g_istore_n C [1, 2, 0] dX4_judge_5 rfl (Nat.le_of_ble_eq_true rfl) rfl ?_
  refine g_iload_n C 2 dX4_judge_6 rfl rfl ?_
  refine g_if_eq (tgt := 12) hf C dX4_judge_7 (by decide) (fun hf => ?_) (fun hf => ?_)
  · refine g_aload_n C 0 dX4_judge_12 rfl rfl ?_
    refine g_aload_n C 0 dX4_judge_13 rfl rfl ?_
    refine g_getC (n := 4) C in_X4_judge_X4 (k := 0) lk_X4_judge_0 rfl (Nat.le_of_ble_eq_true rfl) rfl (Nat.le_of_ble_eq_true rfl) rfl dX4_judge_14 ?_
    refine g_iload_n C 1 dX4_judge_17 rfl rfl ?_
    refine g_aald hf C rfl (by decide) (Nat.le_of_ble_eq_true rfl) dX4_judge_18 (fun hp4 hf => ?_)
    obtain ⟨r6, hc5, hf⟩ := g_bind hf
    refine g_callVi C (mX4_firstAmiss l0 D0 K0 h σ3 (20 + (a1).toNatClampNeg) hc5) gX4_judge_X4_firstAmiss rfl rfl rfl ddX4_firstAmiss ⟨(Nat.le_of_ble_eq_true rfl), (Nat.le_of_ble_eq_true rfl)⟩ rfl (Nat.le_of_ble_eq_true rfl) rfl rfl rfl (Nat.le_of_ble_eq_true rfl) dX4_judge_19 ?_
    refine g_istore_n C [1, 2, 0] dX4_judge_22 rfl (Nat.le_of_ble_eq_true rfl) rfl ?_
    refine g_aload_n C 0 dX4_judge_23 rfl rfl ?_
    refine g_iload_n C 2 dX4_judge_24 rfl rfl ?_
    refine g_bipush C dX4_judge_25 bp_m9 ?_
    refine g_join (P := fun j => ∀ (y8 : Int32), j y8 = some (r, u) → G wX h X 35 [(0, .ref (h 0)), (1, .int a1), (3, .int r6)] [.int y8, .ref (h 0)] σ3) hf (fun y8 hf => ?_) (fun j7 hj7 hf => ?_)
    · refine g_putI C in_X4_judge_X4 (k := 9) lk_X4_judge_1 rfl (Nat.le_of_ble_eq_true rfl) rfl (Nat.le_of_ble_eq_true rfl) tyX4 tyX4_ok nmX4 rfl rfl rfl rfl dX4_judge_35 ?_
      refine g_lets hf (fun σ9 hf => ?_)
      refine g_iload_n C 2 dX4_judge_38 rfl rfl ?_
      refine g_bipush C dX4_judge_39 bp_m9 ?_
      refine g_icmp_ne (tgt := 48) hf C dX4_judge_41 (by decide) (fun hf => ?_) (fun hf => ?_)
      · refine g_aload_n C 0 dX4_judge_48 rfl rfl ?_
        refine g_aload_n C 0 dX4_judge_49 rfl rfl ?_
        refine g_getC (n := 4) C in_X4_judge_X4 (k := 0) lk_X4_judge_0 rfl (Nat.le_of_ble_eq_true rfl) rfl (Nat.le_of_ble_eq_true rfl) rfl dX4_judge_50 ?_
        refine g_iload_n C 1 dX4_judge_53 rfl rfl ?_
        refine g_aald hf C rfl (by decide) (Nat.le_of_ble_eq_true rfl) dX4_judge_54 (fun hp10 hf => ?_)
        refine g_iload_n C 2 dX4_judge_55 rfl rfl ?_
        obtain ⟨r12, hc11, hf⟩ := g_bind hf
        refine g_callVi C (mX4_whatIsAmiss l0 D0 K0 h σ9 (20 + (a1).toNatClampNeg) r6 hc11) gX4_judge_X4_whatIsAmiss rfl rfl rfl ddX4_whatIsAmiss ⟨(Nat.le_of_ble_eq_true rfl), (Nat.le_of_ble_eq_true rfl)⟩ rfl (Nat.le_of_ble_eq_true rfl) rfl rfl rfl (Nat.le_of_ble_eq_true rfl) dX4_judge_56 ?_
        exact g_retiW hf hret dX4_judge_59
      · refine g_iconst C dX4_judge_44 ic_0 ?_
        refine g_goto (tgt := 59) C dX4_judge_45 (by decide) ?_
        exact g_retiW hf hret dX4_judge_59
    · refine g_icmp_ne (tgt := 34) hf C dX4_judge_27 (by decide) (fun hf => ?_) (fun hf => ?_)
      · refine g_iload_n C 2 dX4_judge_34 rfl rfl ?_
        exact hj7 r6 hf
      · refine g_iconst C dX4_judge_30 ic_0 ?_
        refine g_goto (tgt := 35) C dX4_judge_31 (by decide) ?_
        exact hj7 (0 : Int32) hf
  · refine g_iload_n C 2 dX4_judge_10 rfl rfl ?_
    exact g_retiW hf hret dX4_judge_11
/-! X4_worth -/
theorem in_X4_worth_X3 : ∀ q ∈ u_ws RX3 TX3 11, q ∈ wsX4_worth := by decide +kernel
theorem in_X4_worth_X4 : ∀ q ∈ u_ws RX4 TX4 13, q ∈ wsX4_worth := by decide +kernel
theorem lk_X4_worth_0 : Cond.fieldLink RX4 11 "EmptyHouse" "rows" "[[I" ∈ wsX4_worth := by decide +kernel
theorem lk_X4_worth_1 : Cond.fieldLink RX4 53 "EmptyHouse" "live" "LEmptyHouse$Village;" ∈ wsX4_worth := by decide +kernel
theorem lk_X4_worth_2 : Cond.fieldLink RX4 184 "EmptyHouse$Village" "debts" "I" ∈ wsX4_worth := by decide +kernel
theorem lk_X4_worth_3 : Cond.methodLink RX4 190 Lib.Math.max.name ∈ wsX4_worth := by decide +kernel
theorem lk_X4_worth_4 : Cond.static Lib.Math.max.name ∈ wsX4_worth := by decide +kernel
theorem lk_X4_worth_5 : Cond.initialized "java/lang/Math" ∈ wsX4_worth := by decide +kernel
theorem lk_X4_worth_6 : Cond.code Lib.Math.max.name Lib.Math.max.code 2 (some .int) ∈ wsX4_worth := by decide +kernel
theorem lk_X4_worth_7 : Cond.fieldLink RX4 57 "EmptyHouse" "told" "I" ∈ wsX4_worth := by decide +kernel
theorem ddX4_worth : yX4_worth.cls = RX4 ∧ yX4_worth.cls ≠ "java/lang/invoke/MethodHandle" ∧ yX4_worth.cls ≠ "java/lang/invoke/VarHandle" ∧ (parseMethodDescriptor yX4_worth.desc).map (fun d => d.parameters.length) = some 1 := by decide +kernel
set_option maxHeartbeats 4000000 in
set_option maxRecDepth 100000 in
theorem lX4_worth_41_ok {h : Nat → Nat} {X : Cx} {l0 : Launch} {D0 : va_G} {K0 : Nat → ClassId} (σ : pS) (p1 : Int32) {k95 : Int32 → Int32 → Option (Int32 × pS)} {r : Int32} {u : pS} (C : Cok wX h X l0 ({ frames := 6, cells := 0, slots := 0, locals := 137 } : Room) D0 K0 cX4_worth 7 RX4 wsX4_worth) (hret : ∀ (pc : Nat) (lv' : List (Nat × Value)), decode cX4_worth pc = .ok (.ireturn, 1) → G wX h X pc lv' [.int r] u) (hk95 : ∀ (z3 : Int32) (z4 : Int32), k95 z3 z4 = some (r, u) → G wX h X 95 [(0, .ref (h 0)), (3, .int z3), (4, .int z4)] [] σ) : ∀ (F : Nat) (v3 : Int32) (v4 : Int32) (v5 : Int32), lX4_worth_41 σ p1 k95 F v3 v4 v5 = some (r, u) → G wX h X 41 [(0, .ref (h 0)), (1, .int p1), (3, .int v3), (4, .int v4), (5, .int v5)] [] σ := by
  intro F
  induction F with
  | zero => intro v3 v4 v5 hf; exact absurd hf (by simp [lX4_worth_41])
  | succ F ih =>
    intro v3 v4 v5 hf
    rw [lX4_worth_41.eq_2] at hf
    refine g_iload C 4 dX4_worth_41 rfl ?_
    refine g_aload_n C 0 dX4_worth_43 rfl rfl ?_
    refine g_getR C in_X4_worth_X4 (k := 8) lk_X4_worth_1 rfl (Nat.le_of_ble_eq_true rfl) rfl (Nat.le_of_ble_eq_true rfl) rfl dX4_worth_44 ?_
    obtain ⟨hg7, hf⟩ := g_guard hf
    refine g_getI C in_X4_worth_X3 (k := 1) lk_X4_worth_2 rfl (Nat.le_of_ble_eq_true rfl) (shV hg7) (ltV hg7) rfl dX4_worth_47 ?_
    refine g_icmp_ge (tgt := 95) hf C dX4_worth_50 (by decide) (fun hf => ?_) (fun hf => ?_)
    · refine g_lv [0, 2, 3] rfl ?_
      exact hk95 v3 v4 hf
    · refine g_aload_n C 0 dX4_worth_53 rfl rfl ?_
      refine g_getC (n := 4) C in_X4_worth_X4 (k := 0) lk_X4_worth_0 rfl (Nat.le_of_ble_eq_true rfl) rfl (Nat.le_of_ble_eq_true rfl) rfl dX4_worth_54 ?_
      refine g_iload_n C 1 dX4_worth_57 rfl rfl ?_
      refine g_aald hf C rfl (by decide) (Nat.le_of_ble_eq_true rfl) dX4_worth_58 (fun hp8 hf => ?_)
      refine g_iload C 4 dX4_worth_59 rfl ?_
      refine g_iald hf C (sh_row _ (pin_lt hp8)).1 (sh_row _ (pin_lt hp8)).2 dX4_worth_61 (fun hf => ?_)
      refine g_leti hf (fun x9 hf => ?_)
      refine g_istore C [1, 2, 3, 4, 5, 0] dX4_worth_62 (Nat.le_of_ble_eq_true rfl) rfl ?_
      refine g_iload_n C 2 dX4_worth_64 rfl rfl ?_
      refine g_aload_n C 0 dX4_worth_65 rfl rfl ?_
      refine g_getR C in_X4_worth_X4 (k := 8) lk_X4_worth_1 rfl (Nat.le_of_ble_eq_true rfl) rfl (Nat.le_of_ble_eq_true rfl) rfl dX4_worth_66 ?_
      refine g_iload C 4 dX4_worth_69 rfl ?_
      refine g_iload C 5 dX4_worth_71 rfl ?_
      obtain ⟨r11, hc10, hf⟩ := g_bind hf
      refine g_callVi C (mX3_cost l0 D0 K0 h σ (pR σ 0 8) v5 x9 hc10) gX4_worth_X3_cost rfl rfl rfl ddX3_cost ⟨(Nat.le_of_ble_eq_true rfl), (Nat.le_of_ble_eq_true rfl)⟩ (shV hg7) (ltV hg7) rfl rfl rfl (Nat.le_of_ble_eq_true rfl) dX4_worth_73 ?_
      refine g_iadd C dX4_worth_76 ?_
      refine g_leti hf (fun x12 hf => ?_)
      refine g_istore_n C [1, 2, 0, 3, 4, 5] dX4_worth_77 rfl (Nat.le_of_ble_eq_true rfl) rfl ?_
      refine g_iload C 3 dX4_worth_78 rfl ?_
      refine g_iload C 5 dX4_worth_80 rfl ?_
      refine g_iconst C dX4_worth_82 ic_1 ?_
      refine g_iadd C dX4_worth_83 ?_
      refine g_mmax C lk_X4_worth_3 lk_X4_worth_4 lk_X4_worth_5 lk_X4_worth_6 (Nat.le_of_ble_eq_true rfl) (Nat.le_of_ble_eq_true rfl) dX4_worth_84 ?_
      refine g_leti hf (fun x13 hf => ?_)
      refine g_istore C [1, 2, 3, 0, 4] dX4_worth_87 (Nat.le_of_ble_eq_true rfl) rfl ?_
      refine g_iinc C 4 [1, 2, 3, 4, 0] dX4_worth_89 rfl ic_1 (Nat.le_of_ble_eq_true rfl) rfl ?_
      refine g_goto (tgt := 41) C dX4_worth_92 (by decide) ?_
      exact ih x12 x13 (v5 + (1 : Int32)) hf
set_option maxHeartbeats 4000000 in
set_option maxRecDepth 100000 in
theorem mX4_worth (l0 : Launch) (D0 : va_G) (K0 : Nat → ClassId) (h : Nat → Nat) (σ : pS) (a1 : Int32) {r : Int32} {u : pS} (hf : fX4_worth σ a1 = some (r, u)) : Met l0 yX4_worth wsX4_worth ({ frames := 6, cells := 0, slots := 0, locals := 137 } : Room) (va_Pc [.ref (h 0), .int a1] (pIn wX D0 K0 h σ)) (va_Qi (fun r' u' => r' = r ∧ u' = u) (pOut wX D0 K0 h) (pA wX h)) 0 0 (pA wX h) := by
  refine p_metI (lv := [(0, .ref (h 0)), (1, .int a1)]) (by decide +kernel) rfl rfl (Nat.le_of_ble_eq_true rfl) rfl (fun X C hret => ?_)
  unfold fX4_worth at hf
  refine g_aload_n C 0 dX4_worth_0 rfl rfl ?_
  refine g_iload_n C 1 dX4_worth_1 rfl rfl ?_
  obtain ⟨r2, σ3, hc1, hf⟩ := g_pbind hf
  refine g_callVi C (mX4_refuseRound l0 D0 K0 h σ a1 hc1) gX4_worth_X4_refuseRound rfl rfl rfl ddX4_refuseRound ⟨(Nat.le_of_ble_eq_true rfl), (Nat.le_of_ble_eq_true rfl)⟩ rfl (Nat.le_of_ble_eq_true rfl) rfl rfl rfl (Nat.le_of_ble_eq_true rfl) dX4_worth_2 ?_
  refine g_istore_n C [1, 2, 0] dX4_worth_5 rfl (Nat.le_of_ble_eq_true rfl) rfl ?_
  refine g_iload_n C 2 dX4_worth_6 rfl rfl ?_
  refine g_if_eq (tgt := 12) hf C dX4_worth_7 (by decide) (fun hf => ?_) (fun hf => ?_)
  · refine g_aload_n C 0 dX4_worth_12 rfl rfl ?_
    refine g_aload_n C 0 dX4_worth_13 rfl rfl ?_
    refine g_getC (n := 4) C in_X4_worth_X4 (k := 0) lk_X4_worth_0 rfl (Nat.le_of_ble_eq_true rfl) rfl (Nat.le_of_ble_eq_true rfl) rfl dX4_worth_14 ?_
    refine g_iload_n C 1 dX4_worth_17 rfl rfl ?_
    refine g_aald hf C rfl (by decide) (Nat.le_of_ble_eq_true rfl) dX4_worth_18 (fun hp4 hf => ?_)
    obtain ⟨r6, hc5, hf⟩ := g_bind hf
    refine g_callVi C (mX4_firstAmiss l0 D0 K0 h σ3 (20 + (a1).toNatClampNeg) hc5) gX4_worth_X4_firstAmiss rfl rfl rfl ddX4_firstAmiss ⟨(Nat.le_of_ble_eq_true rfl), (Nat.le_of_ble_eq_true rfl)⟩ rfl (Nat.le_of_ble_eq_true rfl) rfl rfl rfl (Nat.le_of_ble_eq_true rfl) dX4_worth_19 ?_
    refine g_bipush C dX4_worth_22 bp_m9 ?_
    refine g_icmp_eq (tgt := 33) hf C dX4_worth_24 (by decide) (fun hf => ?_) (fun hf => ?_)
    · refine g_iconst C dX4_worth_33 ic_0 ?_
      refine g_istore_n C [1, 2, 0] dX4_worth_34 rfl (Nat.le_of_ble_eq_true rfl) rfl ?_
      refine g_iconst C dX4_worth_35 ic_0 ?_
      refine g_istore C [1, 2, 3, 0] dX4_worth_36 (Nat.le_of_ble_eq_true rfl) rfl ?_
      refine g_iconst C dX4_worth_38 ic_0 ?_
      refine g_istore C [1, 2, 3, 4, 0] dX4_worth_39 (Nat.le_of_ble_eq_true rfl) rfl ?_
      refine lX4_worth_41_ok σ3 a1 C hret (fun y14 y15 hf => ?_) FU (0 : Int32) (0 : Int32) (0 : Int32) hf
      refine g_aload_n C 0 dX4_worth_95 rfl rfl ?_
      refine g_iload C 2 dX4_worth_96 rfl ?_
      refine g_putI C in_X4_worth_X4 (k := 9) lk_X4_worth_7 rfl (Nat.le_of_ble_eq_true rfl) rfl (Nat.le_of_ble_eq_true rfl) tyX4 tyX4_ok nmX4 rfl rfl rfl rfl dX4_worth_98 ?_
      refine g_lets hf (fun σ16 hf => ?_)
      refine g_iload_n C 1 dX4_worth_101 rfl rfl ?_
      exact g_retiW hf hret dX4_worth_102
    · refine g_aload_n C 0 dX4_worth_27 rfl rfl ?_
      refine g_iconst C dX4_worth_28 ic_3 ?_
      obtain ⟨r18, σ19, hc17, hf⟩ := g_pbind hf
      refine g_callVi C (mX4_find l0 D0 K0 h σ3 (3 : Int32) hc17) gX4_worth_X4_find rfl rfl rfl ddX4_find ⟨(Nat.le_of_ble_eq_true rfl), (Nat.le_of_ble_eq_true rfl)⟩ rfl (Nat.le_of_ble_eq_true rfl) rfl rfl rfl (Nat.le_of_ble_eq_true rfl) dX4_worth_29 ?_
      exact g_retiW hf hret dX4_worth_32
  · refine g_iload_n C 2 dX4_worth_10 rfl rfl ?_
    exact g_retiW hf hret dX4_worth_11
/-! X4_best -/
theorem in_X4_best_X2 : ∀ q ∈ u_ws RX2 TX2 12, q ∈ wsX4_best := by decide +kernel
theorem in_X4_best_X3 : ∀ q ∈ u_ws RX3 TX3 11, q ∈ wsX4_best := by decide +kernel
theorem in_X4_best_X4 : ∀ q ∈ u_ws RX4 TX4 13, q ∈ wsX4_best := by decide +kernel
theorem lk_X4_best_0 : Cond.fieldLink RX4 43 "EmptyHouse" "rounds" "LEmptyHouse$Rounds;" ∈ wsX4_best := by decide +kernel
theorem lk_X4_best_1 : Cond.fieldLink RX4 53 "EmptyHouse" "live" "LEmptyHouse$Village;" ∈ wsX4_best := by decide +kernel
theorem lk_X4_best_2 : Cond.fieldLink RX4 184 "EmptyHouse$Village" "debts" "I" ∈ wsX4_best := by decide +kernel
theorem lk_X4_best_3 : Cond.fieldLink RX4 201 "EmptyHouse$Rounds" "best" "[I" ∈ wsX4_best := by decide +kernel
theorem lk_X4_best_4 : Cond.fieldLink RX4 11 "EmptyHouse" "rows" "[[I" ∈ wsX4_best := by decide +kernel
theorem lk_X4_best_5 : Cond.methodLink RX4 97 arraycopyName ∈ wsX4_best := by decide +kernel
theorem lk_X4_best_6 : Cond.native arraycopyName ∈ wsX4_best := by decide +kernel
theorem lk_X4_best_7 : Cond.static arraycopyName ∈ wsX4_best := by decide +kernel
theorem lk_X4_best_8 : Cond.initialized "java/lang/System" ∈ wsX4_best := by decide +kernel
theorem lk_X4_best_9 : Cond.fieldLink RX4 57 "EmptyHouse" "told" "I" ∈ wsX4_best := by decide +kernel
theorem ddX4_best : yX4_best.cls = RX4 ∧ yX4_best.cls ≠ "java/lang/invoke/MethodHandle" ∧ yX4_best.cls ≠ "java/lang/invoke/VarHandle" ∧ (parseMethodDescriptor yX4_best.desc).map (fun d => d.parameters.length) = some 1 := by decide +kernel
set_option maxHeartbeats 4000000 in
set_option maxRecDepth 100000 in
theorem mX4_best (l0 : Launch) (D0 : va_G) (K0 : Nat → ClassId) (h : Nat → Nat) (σ : pS) (a1 : Int32) {r : Int32} {u : pS} (hf : fX4_best σ a1 = some (r, u)) : Met l0 yX4_best wsX4_best ({ frames := 6, cells := 0, slots := 0, locals := 137 } : Room) (va_Pc [.ref (h 0), .int a1] (pIn wX D0 K0 h σ)) (va_Qi (fun r' u' => r' = r ∧ u' = u) (pOut wX D0 K0 h) (pA wX h)) 0 0 (pA wX h) := by
  refine p_metI (lv := [(0, .ref (h 0)), (1, .int a1)]) (by decide +kernel) rfl rfl (Nat.le_of_ble_eq_true rfl) rfl (fun X C hret => ?_)
  unfold fX4_best at hf
  refine g_iload_n C 1 dX4_best_0 rfl rfl ?_
  obtain ⟨r2, hc1, hf⟩ := g_bind hf
  refine g_callSi C (mX4_isRow l0 D0 K0 h σ a1 hc1) gX4_best_X4_isRow rfl rfl rfl ddX4_isRow ⟨(Nat.le_of_ble_eq_true rfl), (Nat.le_of_ble_eq_true rfl)⟩ rfl rfl (Nat.le_of_ble_eq_true rfl) dX4_best_1 ?_
  refine g_if_ne (tgt := 9) hf C dX4_best_4 (by decide) (fun hf => ?_) (fun hf => ?_)
  · refine g_aload_n C 0 dX4_best_9 rfl rfl ?_
    refine g_getC (n := 3) C in_X4_best_X4 (k := 6) lk_X4_best_0 rfl (Nat.le_of_ble_eq_true rfl) rfl (Nat.le_of_ble_eq_true rfl) rfl dX4_best_10 ?_
    refine g_aload_n C 0 dX4_best_13 rfl rfl ?_
    refine g_getR C in_X4_best_X4 (k := 8) lk_X4_best_1 rfl (Nat.le_of_ble_eq_true rfl) rfl (Nat.le_of_ble_eq_true rfl) rfl dX4_best_14 ?_
    obtain ⟨r4, σ5, hc3, hf⟩ := g_pbind hf
    refine g_callVv C (mX2_solve l0 D0 K0 h σ (pR σ 0 8) hc3) gX4_best_X2_solve rfl rfl rfl ddX2_solve ⟨(Nat.le_of_ble_eq_true rfl), (Nat.le_of_ble_eq_true rfl)⟩ rfl (Nat.le_of_ble_eq_true rfl) rfl rfl rfl (Nat.le_of_ble_eq_true rfl) dX4_best_17 ?_
    refine g_aload_n C 0 dX4_best_20 rfl rfl ?_
    refine g_getC (n := 3) C in_X4_best_X4 (k := 6) lk_X4_best_0 rfl (Nat.le_of_ble_eq_true rfl) rfl (Nat.le_of_ble_eq_true rfl) rfl dX4_best_21 ?_
    obtain ⟨r7, σ8, hc6, hf⟩ := g_pbind hf
    refine g_callVv C (mX2_trace l0 D0 K0 h σ5 hc6) gX4_best_X2_trace rfl rfl rfl ddX2_trace ⟨(Nat.le_of_ble_eq_true rfl), (Nat.le_of_ble_eq_true rfl)⟩ rfl (Nat.le_of_ble_eq_true rfl) rfl rfl rfl (Nat.le_of_ble_eq_true rfl) dX4_best_24 ?_
    refine g_aload_n C 0 dX4_best_27 rfl rfl ?_
    refine g_iload_n C 1 dX4_best_28 rfl rfl ?_
    refine g_aload_n C 0 dX4_best_29 rfl rfl ?_
    refine g_getR C in_X4_best_X4 (k := 8) lk_X4_best_1 rfl (Nat.le_of_ble_eq_true rfl) rfl (Nat.le_of_ble_eq_true rfl) rfl dX4_best_30 ?_
    obtain ⟨hg9, hf⟩ := g_guard hf
    refine g_getI C in_X4_best_X3 (k := 1) lk_X4_best_2 rfl (Nat.le_of_ble_eq_true rfl) (shV hg9) (ltV hg9) rfl dX4_best_33 ?_
    refine g_bipush C dX4_best_36 bp_m9 ?_
    obtain ⟨r11, σ12, hc10, hf⟩ := g_pbind hf
    refine g_callVv C (mX4_layOutRow l0 D0 K0 h σ8 a1 (pI σ8 (pR σ8 0 8) 1) (-9 : Int32) hc10) gX4_best_X4_layOutRow rfl rfl rfl ddX4_layOutRow ⟨(Nat.le_of_ble_eq_true rfl), (Nat.le_of_ble_eq_true rfl)⟩ rfl (Nat.le_of_ble_eq_true rfl) rfl rfl rfl (Nat.le_of_ble_eq_true rfl) dX4_best_38 ?_
    refine g_aload_n C 0 dX4_best_41 rfl rfl ?_
    refine g_getC (n := 3) C in_X4_best_X4 (k := 6) lk_X4_best_0 rfl (Nat.le_of_ble_eq_true rfl) rfl (Nat.le_of_ble_eq_true rfl) rfl dX4_best_42 ?_
    refine g_getC (n := 18) C in_X4_best_X2 (k := 8) lk_X4_best_3 rfl (Nat.le_of_ble_eq_true rfl) rfl (Nat.le_of_ble_eq_true rfl) rfl dX4_best_45 ?_
    refine g_iconst C dX4_best_48 ic_0 ?_
    refine g_aload_n C 0 dX4_best_49 rfl rfl ?_
    refine g_getC (n := 4) C in_X4_best_X4 (k := 0) lk_X4_best_4 rfl (Nat.le_of_ble_eq_true rfl) rfl (Nat.le_of_ble_eq_true rfl) rfl dX4_best_50 ?_
    refine g_iload_n C 1 dX4_best_53 rfl rfl ?_
    refine g_aald hf C rfl (by decide) (Nat.le_of_ble_eq_true rfl) dX4_best_54 (fun hp13 hf => ?_)
    refine g_iconst C dX4_best_55 ic_0 ?_
    refine g_aload_n C 0 dX4_best_56 rfl rfl ?_
    refine g_getR C in_X4_best_X4 (k := 8) lk_X4_best_1 rfl (Nat.le_of_ble_eq_true rfl) rfl (Nat.le_of_ble_eq_true rfl) rfl dX4_best_57 ?_
    obtain ⟨hg14, hf⟩ := g_guard hf
    refine g_getI C in_X4_best_X3 (k := 1) lk_X4_best_2 rfl (Nat.le_of_ble_eq_true rfl) (shV hg14) (ltV hg14) rfl dX4_best_60 ?_
    refine g_copy hf C lk_X4_best_5 lk_X4_best_6 lk_X4_best_7 lk_X4_best_8 rfl (Nat.le_of_ble_eq_true rfl) (sh_row _ (pin_lt hp13)).1 (sh_row _ (pin_lt hp13)).2 (Nat.le_of_ble_eq_true rfl) (Nat.le_of_ble_eq_true rfl) dX4_best_63 (fun hf => ?_)
    refine g_lets hf (fun σ15 hf => ?_)
    refine g_aload_n C 0 dX4_best_66 rfl rfl ?_
    refine g_aload_n C 0 dX4_best_67 rfl rfl ?_
    refine g_getR C in_X4_best_X4 (k := 8) lk_X4_best_1 rfl (Nat.le_of_ble_eq_true rfl) rfl (Nat.le_of_ble_eq_true rfl) rfl dX4_best_68 ?_
    obtain ⟨hg16, hf⟩ := g_guard hf
    obtain ⟨r18, hc17, hf⟩ := g_bind hf
    refine g_callVi C (mX3_allValues l0 D0 K0 h σ15 (pR σ15 0 8) hc17) gX4_best_X3_allValues rfl rfl rfl ddX3_allValues ⟨(Nat.le_of_ble_eq_true rfl), (Nat.le_of_ble_eq_true rfl)⟩ (shV hg16) (ltV hg16) rfl rfl rfl (Nat.le_of_ble_eq_true rfl) dX4_best_71 ?_
    refine g_aload_n C 0 dX4_best_74 rfl rfl ?_
    refine g_getC (n := 3) C in_X4_best_X4 (k := 6) lk_X4_best_0 rfl (Nat.le_of_ble_eq_true rfl) rfl (Nat.le_of_ble_eq_true rfl) rfl dX4_best_75 ?_
    refine g_aload_n C 0 dX4_best_78 rfl rfl ?_
    refine g_getC (n := 3) C in_X4_best_X4 (k := 6) lk_X4_best_0 rfl (Nat.le_of_ble_eq_true rfl) rfl (Nat.le_of_ble_eq_true rfl) rfl dX4_best_79 ?_
    obtain ⟨r20, hc19, hf⟩ := g_bind hf
    refine g_callVi C (mX2_leastLoss l0 D0 K0 h σ15 hc19) gX4_best_X2_leastLoss rfl rfl rfl ddX2_leastLoss ⟨(Nat.le_of_ble_eq_true rfl), (Nat.le_of_ble_eq_true rfl)⟩ rfl (Nat.le_of_ble_eq_true rfl) rfl rfl rfl (Nat.le_of_ble_eq_true rfl) dX4_best_82 ?_
    obtain ⟨r22, hc21, hf⟩ := g_bind hf
    refine g_callVi C (mX2_interestOf l0 D0 K0 h σ15 r20 hc21) gX4_best_X2_interestOf rfl rfl rfl ddX2_interestOf ⟨(Nat.le_of_ble_eq_true rfl), (Nat.le_of_ble_eq_true rfl)⟩ rfl (Nat.le_of_ble_eq_true rfl) rfl rfl rfl (Nat.le_of_ble_eq_true rfl) dX4_best_85 ?_
    refine g_iadd C dX4_best_88 ?_
    refine g_putI C in_X4_best_X4 (k := 9) lk_X4_best_9 rfl (Nat.le_of_ble_eq_true rfl) rfl (Nat.le_of_ble_eq_true rfl) tyX4 tyX4_ok nmX4 rfl rfl rfl rfl dX4_best_89 ?_
    refine g_lets hf (fun σ23 hf => ?_)
    refine g_aload_n C 0 dX4_best_92 rfl rfl ?_
    refine g_getC (n := 3) C in_X4_best_X4 (k := 6) lk_X4_best_0 rfl (Nat.le_of_ble_eq_true rfl) rfl (Nat.le_of_ble_eq_true rfl) rfl dX4_best_93 ?_
    refine g_aload_n C 0 dX4_best_96 rfl rfl ?_
    refine g_getC (n := 3) C in_X4_best_X4 (k := 6) lk_X4_best_0 rfl (Nat.le_of_ble_eq_true rfl) rfl (Nat.le_of_ble_eq_true rfl) rfl dX4_best_97 ?_
    obtain ⟨r25, hc24, hf⟩ := g_bind hf
    refine g_callVi C (mX2_leastLoss l0 D0 K0 h σ23 hc24) gX4_best_X2_leastLoss rfl rfl rfl ddX2_leastLoss ⟨(Nat.le_of_ble_eq_true rfl), (Nat.le_of_ble_eq_true rfl)⟩ rfl (Nat.le_of_ble_eq_true rfl) rfl rfl rfl (Nat.le_of_ble_eq_true rfl) dX4_best_100 ?_
    obtain ⟨r27, hc26, hf⟩ := g_bind hf
    refine g_callVi C (mX2_paidOf l0 D0 K0 h σ23 r25 hc26) gX4_best_X2_paidOf rfl rfl rfl ddX2_paidOf ⟨(Nat.le_of_ble_eq_true rfl), (Nat.le_of_ble_eq_true rfl)⟩ rfl (Nat.le_of_ble_eq_true rfl) rfl rfl rfl (Nat.le_of_ble_eq_true rfl) dX4_best_103 ?_
    exact g_retiW hf hret dX4_best_106
  · refine g_iconst C dX4_best_7 ic_m1 ?_
    exact g_retiW hf hret dX4_best_8
/-! X4_ways -/
theorem in_X4_ways_X4 : ∀ q ∈ u_ws RX4 TX4 13, q ∈ wsX4_ways := by decide +kernel
theorem lk_X4_ways_0 : Cond.fieldLink RX4 43 "EmptyHouse" "rounds" "LEmptyHouse$Rounds;" ∈ wsX4_ways := by decide +kernel
theorem lk_X4_ways_1 : Cond.fieldLink RX4 53 "EmptyHouse" "live" "LEmptyHouse$Village;" ∈ wsX4_ways := by decide +kernel
theorem lk_X4_ways_2 : Cond.fieldLink RX4 61 "EmptyHouse" "toldUpper" "J" ∈ wsX4_ways := by decide +kernel
theorem lk_X4_ways_3 : Cond.fieldLink RX4 65 "EmptyHouse" "toldLower" "J" ∈ wsX4_ways := by decide +kernel
theorem ddX4_ways : yX4_ways.cls = RX4 ∧ yX4_ways.cls ≠ "java/lang/invoke/MethodHandle" ∧ yX4_ways.cls ≠ "java/lang/invoke/VarHandle" ∧ (parseMethodDescriptor yX4_ways.desc).map (fun d => d.parameters.length) = some 0 := by decide +kernel
set_option maxHeartbeats 4000000 in
set_option maxRecDepth 100000 in
theorem mX4_ways (l0 : Launch) (D0 : va_G) (K0 : Nat → ClassId) (h : Nat → Nat) (σ : pS)  {r : Int32} {u : pS} (hf : fX4_ways σ = some (r, u)) : Met l0 yX4_ways wsX4_ways ({ frames := 6, cells := 0, slots := 0, locals := 137 } : Room) (va_Pc [.ref (h 0)] (pIn wX D0 K0 h σ)) (va_Qi (fun r' u' => r' = r ∧ u' = u) (pOut wX D0 K0 h) (pA wX h)) 0 0 (pA wX h) := by
  refine p_metI (lv := [(0, .ref (h 0))]) (by decide +kernel) rfl rfl (Nat.le_of_ble_eq_true rfl) rfl (fun X C hret => ?_)
  unfold fX4_ways at hf
  refine g_aload_n C 0 dX4_ways_0 rfl rfl ?_
  refine g_getC (n := 3) C in_X4_ways_X4 (k := 6) lk_X4_ways_0 rfl (Nat.le_of_ble_eq_true rfl) rfl (Nat.le_of_ble_eq_true rfl) rfl dX4_ways_1 ?_
  refine g_aload_n C 0 dX4_ways_4 rfl rfl ?_
  refine g_getR C in_X4_ways_X4 (k := 8) lk_X4_ways_1 rfl (Nat.le_of_ble_eq_true rfl) rfl (Nat.le_of_ble_eq_true rfl) rfl dX4_ways_5 ?_
  obtain ⟨r2, σ3, hc1, hf⟩ := g_pbind hf
  refine g_callVv C (mX2_solve l0 D0 K0 h σ (pR σ 0 8) hc1) gX4_ways_X2_solve rfl rfl rfl ddX2_solve ⟨(Nat.le_of_ble_eq_true rfl), (Nat.le_of_ble_eq_true rfl)⟩ rfl (Nat.le_of_ble_eq_true rfl) rfl rfl rfl (Nat.le_of_ble_eq_true rfl) dX4_ways_8 ?_
  refine g_aload_n C 0 dX4_ways_11 rfl rfl ?_
  refine g_aload_n C 0 dX4_ways_12 rfl rfl ?_
  refine g_getC (n := 3) C in_X4_ways_X4 (k := 6) lk_X4_ways_0 rfl (Nat.le_of_ble_eq_true rfl) rfl (Nat.le_of_ble_eq_true rfl) rfl dX4_ways_13 ?_
  obtain ⟨r5, σ6, hc4, hf⟩ := g_pbind hf
  refine g_callVl C (mX2_countBest l0 D0 K0 h σ3 hc4) gX4_ways_X2_countBest rfl rfl rfl ddX2_countBest ⟨(Nat.le_of_ble_eq_true rfl), (Nat.le_of_ble_eq_true rfl)⟩ rfl (Nat.le_of_ble_eq_true rfl) rfl rfl rfl (Nat.le_of_ble_eq_true rfl) dX4_ways_16 ?_
  refine g_putL C in_X4_ways_X4 (k := 10) lk_X4_ways_2 rfl (Nat.le_of_ble_eq_true rfl) rfl (Nat.le_of_ble_eq_true rfl) tyX4 tyX4_ok nmX4 rfl rfl rfl rfl dX4_ways_19 ?_
  refine g_lets hf (fun σ7 hf => ?_)
  refine g_aload_n C 0 dX4_ways_22 rfl rfl ?_
  refine g_lconst C dX4_ways_23 lc_1 ?_
  refine g_putL C in_X4_ways_X4 (k := 11) lk_X4_ways_3 rfl (Nat.le_of_ble_eq_true rfl) rfl (Nat.le_of_ble_eq_true rfl) tyX4 tyX4_ok nmX4 rfl rfl rfl rfl dX4_ways_24 ?_
  refine g_lets hf (fun σ8 hf => ?_)
  refine g_iconst C dX4_ways_27 ic_1 ?_
  exact g_retiW hf hret dX4_ways_28
/-! X4_soonest -/
theorem in_X4_soonest_X4 : ∀ q ∈ u_ws RX4 TX4 13, q ∈ wsX4_soonest := by decide +kernel
theorem lk_X4_soonest_0 : Cond.fieldLink RX4 43 "EmptyHouse" "rounds" "LEmptyHouse$Rounds;" ∈ wsX4_soonest := by decide +kernel
theorem lk_X4_soonest_1 : Cond.fieldLink RX4 53 "EmptyHouse" "live" "LEmptyHouse$Village;" ∈ wsX4_soonest := by decide +kernel
theorem lk_X4_soonest_2 : Cond.fieldLink RX4 57 "EmptyHouse" "told" "I" ∈ wsX4_soonest := by decide +kernel
theorem ddX4_soonest : yX4_soonest.cls = RX4 ∧ yX4_soonest.cls ≠ "java/lang/invoke/MethodHandle" ∧ yX4_soonest.cls ≠ "java/lang/invoke/VarHandle" ∧ (parseMethodDescriptor yX4_soonest.desc).map (fun d => d.parameters.length) = some 0 := by decide +kernel
set_option maxHeartbeats 4000000 in
set_option maxRecDepth 100000 in
theorem mX4_soonest (l0 : Launch) (D0 : va_G) (K0 : Nat → ClassId) (h : Nat → Nat) (σ : pS)  {r : Int32} {u : pS} (hf : fX4_soonest σ = some (r, u)) : Met l0 yX4_soonest wsX4_soonest ({ frames := 6, cells := 0, slots := 0, locals := 137 } : Room) (va_Pc [.ref (h 0)] (pIn wX D0 K0 h σ)) (va_Qi (fun r' u' => r' = r ∧ u' = u) (pOut wX D0 K0 h) (pA wX h)) 0 0 (pA wX h) := by
  refine p_metI (lv := [(0, .ref (h 0))]) (by decide +kernel) rfl rfl (Nat.le_of_ble_eq_true rfl) rfl (fun X C hret => ?_)
  unfold fX4_soonest at hf
  refine g_aload_n C 0 dX4_soonest_0 rfl rfl ?_
  refine g_getC (n := 3) C in_X4_soonest_X4 (k := 6) lk_X4_soonest_0 rfl (Nat.le_of_ble_eq_true rfl) rfl (Nat.le_of_ble_eq_true rfl) rfl dX4_soonest_1 ?_
  refine g_aload_n C 0 dX4_soonest_4 rfl rfl ?_
  refine g_getR C in_X4_soonest_X4 (k := 8) lk_X4_soonest_1 rfl (Nat.le_of_ble_eq_true rfl) rfl (Nat.le_of_ble_eq_true rfl) rfl dX4_soonest_5 ?_
  obtain ⟨r2, σ3, hc1, hf⟩ := g_pbind hf
  refine g_callVv C (mX2_solve l0 D0 K0 h σ (pR σ 0 8) hc1) gX4_soonest_X2_solve rfl rfl rfl ddX2_solve ⟨(Nat.le_of_ble_eq_true rfl), (Nat.le_of_ble_eq_true rfl)⟩ rfl (Nat.le_of_ble_eq_true rfl) rfl rfl rfl (Nat.le_of_ble_eq_true rfl) dX4_soonest_8 ?_
  refine g_aload_n C 0 dX4_soonest_11 rfl rfl ?_
  refine g_getC (n := 3) C in_X4_soonest_X4 (k := 6) lk_X4_soonest_0 rfl (Nat.le_of_ble_eq_true rfl) rfl (Nat.le_of_ble_eq_true rfl) rfl dX4_soonest_12 ?_
  obtain ⟨r5, σ6, hc4, hf⟩ := g_pbind hf
  refine g_callVi C (mX2_leastEnd l0 D0 K0 h σ3 hc4) gX4_soonest_X2_leastEnd rfl rfl rfl ddX2_leastEnd ⟨(Nat.le_of_ble_eq_true rfl), (Nat.le_of_ble_eq_true rfl)⟩ rfl (Nat.le_of_ble_eq_true rfl) rfl rfl rfl (Nat.le_of_ble_eq_true rfl) dX4_soonest_15 ?_
  refine g_istore_n C [1, 0] dX4_soonest_18 rfl (Nat.le_of_ble_eq_true rfl) rfl ?_
  refine g_aload_n C 0 dX4_soonest_19 rfl rfl ?_
  refine g_aload_n C 0 dX4_soonest_20 rfl rfl ?_
  refine g_getR C in_X4_soonest_X4 (k := 8) lk_X4_soonest_1 rfl (Nat.le_of_ble_eq_true rfl) rfl (Nat.le_of_ble_eq_true rfl) rfl dX4_soonest_21 ?_
  obtain ⟨hg7, hf⟩ := g_guard hf
  obtain ⟨r9, hc8, hf⟩ := g_bind hf
  refine g_callVi C (mX3_allValues l0 D0 K0 h σ6 (pR σ6 0 8) hc8) gX4_soonest_X3_allValues rfl rfl rfl ddX3_allValues ⟨(Nat.le_of_ble_eq_true rfl), (Nat.le_of_ble_eq_true rfl)⟩ (shV hg7) (ltV hg7) rfl rfl rfl (Nat.le_of_ble_eq_true rfl) dX4_soonest_24 ?_
  refine g_aload_n C 0 dX4_soonest_27 rfl rfl ?_
  refine g_getC (n := 3) C in_X4_soonest_X4 (k := 6) lk_X4_soonest_0 rfl (Nat.le_of_ble_eq_true rfl) rfl (Nat.le_of_ble_eq_true rfl) rfl dX4_soonest_28 ?_
  refine g_aload_n C 0 dX4_soonest_31 rfl rfl ?_
  refine g_getC (n := 3) C in_X4_soonest_X4 (k := 6) lk_X4_soonest_0 rfl (Nat.le_of_ble_eq_true rfl) rfl (Nat.le_of_ble_eq_true rfl) rfl dX4_soonest_32 ?_
  obtain ⟨r11, hc10, hf⟩ := g_bind hf
  refine g_callVi C (mX2_lossBefore l0 D0 K0 h σ6 hc10) gX4_soonest_X2_lossBefore rfl rfl rfl ddX2_lossBefore ⟨(Nat.le_of_ble_eq_true rfl), (Nat.le_of_ble_eq_true rfl)⟩ rfl (Nat.le_of_ble_eq_true rfl) rfl rfl rfl (Nat.le_of_ble_eq_true rfl) dX4_soonest_35 ?_
  obtain ⟨r13, hc12, hf⟩ := g_bind hf
  refine g_callVi C (mX2_interestOf l0 D0 K0 h σ6 r11 hc12) gX4_soonest_X2_interestOf rfl rfl rfl ddX2_interestOf ⟨(Nat.le_of_ble_eq_true rfl), (Nat.le_of_ble_eq_true rfl)⟩ rfl (Nat.le_of_ble_eq_true rfl) rfl rfl rfl (Nat.le_of_ble_eq_true rfl) dX4_soonest_38 ?_
  refine g_iadd C dX4_soonest_41 ?_
  refine g_putI C in_X4_soonest_X4 (k := 9) lk_X4_soonest_2 rfl (Nat.le_of_ble_eq_true rfl) rfl (Nat.le_of_ble_eq_true rfl) tyX4 tyX4_ok nmX4 rfl rfl rfl rfl dX4_soonest_42 ?_
  refine g_lets hf (fun σ14 hf => ?_)
  refine g_iload_n C 1 dX4_soonest_45 rfl rfl ?_
  exact g_retiW hf hret dX4_soonest_46
/-! X4_rings -/
theorem in_X4_rings_X3 : ∀ q ∈ u_ws RX3 TX3 11, q ∈ wsX4_rings := by decide +kernel
theorem in_X4_rings_X4 : ∀ q ∈ u_ws RX4 TX4 13, q ∈ wsX4_rings := by decide +kernel
theorem lk_X4_rings_0 : Cond.fieldLink RX4 53 "EmptyHouse" "live" "LEmptyHouse$Village;" ∈ wsX4_rings := by decide +kernel
theorem lk_X4_rings_1 : Cond.fieldLink RX4 124 "EmptyHouse$Village" "people" "I" ∈ wsX4_rings := by decide +kernel
theorem lk_X4_rings_2 : Cond.methodLink RX4 230 Lib.Math.min.name ∈ wsX4_rings := by decide +kernel
theorem lk_X4_rings_3 : Cond.static Lib.Math.min.name ∈ wsX4_rings := by decide +kernel
theorem lk_X4_rings_4 : Cond.initialized "java/lang/Math" ∈ wsX4_rings := by decide +kernel
theorem lk_X4_rings_5 : Cond.code Lib.Math.min.name Lib.Math.min.code 2 (some .int) ∈ wsX4_rings := by decide +kernel
theorem lk_X4_rings_6 : Cond.fieldLink RX4 57 "EmptyHouse" "told" "I" ∈ wsX4_rings := by decide +kernel
theorem ddX4_rings : yX4_rings.cls = RX4 ∧ yX4_rings.cls ≠ "java/lang/invoke/MethodHandle" ∧ yX4_rings.cls ≠ "java/lang/invoke/VarHandle" ∧ (parseMethodDescriptor yX4_rings.desc).map (fun d => d.parameters.length) = some 0 := by decide +kernel
set_option maxHeartbeats 4000000 in
set_option maxRecDepth 100000 in
theorem lX4_rings_6_ok {h : Nat → Nat} {X : Cx} {l0 : Launch} {D0 : va_G} {K0 : Nat → ClassId} (σ : pS) {k60 : Int32 → Int32 → Option (Int32 × pS)} {r : Int32} {u : pS} (C : Cok wX h X l0 ({ frames := 3, cells := 0, slots := 0, locals := 67 } : Room) D0 K0 cX4_rings 5 RX4 wsX4_rings) (hret : ∀ (pc : Nat) (lv' : List (Nat × Value)), decode cX4_rings pc = .ok (.ireturn, 1) → G wX h X pc lv' [.int r] u) (hk60 : ∀ (z1 : Int32) (z2 : Int32), k60 z1 z2 = some (r, u) → G wX h X 60 [(0, .ref (h 0)), (1, .int z1), (2, .int z2)] [] σ) : ∀ (F : Nat) (v1 : Int32) (v2 : Int32) (v3 : Int32), lX4_rings_6 σ k60 F v1 v2 v3 = some (r, u) → G wX h X 6 [(0, .ref (h 0)), (1, .int v1), (2, .int v2), (3, .int v3)] [] σ := by
  intro F
  induction F with
  | zero => intro v1 v2 v3 hf; exact absurd hf (by simp [lX4_rings_6])
  | succ F ih =>
    intro v1 v2 v3 hf
    rw [lX4_rings_6.eq_2] at hf
    refine g_iload_n C 3 dX4_rings_6 rfl rfl ?_
    refine g_aload_n C 0 dX4_rings_7 rfl rfl ?_
    refine g_getR C in_X4_rings_X4 (k := 8) lk_X4_rings_0 rfl (Nat.le_of_ble_eq_true rfl) rfl (Nat.le_of_ble_eq_true rfl) rfl dX4_rings_8 ?_
    obtain ⟨hg1, hf⟩ := g_guard hf
    refine g_getI C in_X4_rings_X3 (k := 0) lk_X4_rings_1 rfl (Nat.le_of_ble_eq_true rfl) (shV hg1) (ltV hg1) rfl dX4_rings_11 ?_
    refine g_icmp_ge (tgt := 60) hf C dX4_rings_14 (by decide) (fun hf => ?_) (fun hf => ?_)
    · refine g_lv [0, 1, 2] rfl ?_
      exact hk60 v1 v2 hf
    · refine g_aload_n C 0 dX4_rings_17 rfl rfl ?_
      refine g_getR C in_X4_rings_X4 (k := 8) lk_X4_rings_0 rfl (Nat.le_of_ble_eq_true rfl) rfl (Nat.le_of_ble_eq_true rfl) rfl dX4_rings_18 ?_
      refine g_iload_n C 3 dX4_rings_21 rfl rfl ?_
      obtain ⟨r3, hc2, hf⟩ := g_bind hf
      refine g_callVi C (mX3_smallestRing l0 D0 K0 h σ (pR σ 0 8) v3 hc2) gX4_rings_X3_smallestRing rfl rfl rfl ddX3_smallestRing ⟨(Nat.le_of_ble_eq_true rfl), (Nat.le_of_ble_eq_true rfl)⟩ (shV hg1) (ltV hg1) rfl rfl rfl (Nat.le_of_ble_eq_true rfl) dX4_rings_22 ?_
      refine g_istore C [1, 2, 3, 4, 0] dX4_rings_25 (Nat.le_of_ble_eq_true rfl) rfl ?_
      refine g_iload C 4 dX4_rings_27 rfl ?_
      refine g_if_le (tgt := 54) hf C dX4_rings_29 (by decide) (fun hf => ?_) (fun hf => ?_)
      · refine g_iinc C 3 [1, 2, 3, 0] dX4_rings_54 rfl ic_1 (Nat.le_of_ble_eq_true rfl) rfl ?_
        refine g_goto (tgt := 6) C dX4_rings_57 (by decide) ?_
        exact ih v1 v2 (v3 + (1 : Int32)) hf
      · refine g_iload_n C 1 dX4_rings_32 rfl rfl ?_
        refine g_iconst C dX4_rings_33 ic_1 ?_
        refine g_iload_n C 3 dX4_rings_34 rfl rfl ?_
        refine g_ishl C dX4_rings_35 ?_
        refine g_ior C dX4_rings_36 ?_
        refine g_leti hf (fun x4 hf => ?_)
        refine g_istore_n C [1, 0, 2, 3, 4] dX4_rings_37 rfl (Nat.le_of_ble_eq_true rfl) rfl ?_
        refine g_iload_n C 2 dX4_rings_38 rfl rfl ?_
        refine g_if_ne (tgt := 47) hf C dX4_rings_39 (by decide) (fun hf => ?_) (fun hf => ?_)
        · refine g_iload_n C 2 dX4_rings_47 rfl rfl ?_
          refine g_iload C 4 dX4_rings_48 rfl ?_
          refine g_mmin C lk_X4_rings_2 lk_X4_rings_3 lk_X4_rings_4 lk_X4_rings_5 (Nat.le_of_ble_eq_true rfl) (Nat.le_of_ble_eq_true rfl) dX4_rings_50 ?_
          refine g_leti hf (fun x5 hf => ?_)
          refine g_istore_n C [1, 2, 0, 3] dX4_rings_53 rfl (Nat.le_of_ble_eq_true rfl) rfl ?_
          refine g_iinc C 3 [1, 2, 3, 0] dX4_rings_54 rfl ic_1 (Nat.le_of_ble_eq_true rfl) rfl ?_
          refine g_goto (tgt := 6) C dX4_rings_57 (by decide) ?_
          exact ih x4 x5 (v3 + (1 : Int32)) hf
        · refine g_iload C 4 dX4_rings_42 rfl ?_
          refine g_goto (tgt := 53) C dX4_rings_44 (by decide) ?_
          refine g_istore_n C [1, 2, 0, 3] dX4_rings_53 rfl (Nat.le_of_ble_eq_true rfl) rfl ?_
          refine g_iinc C 3 [1, 2, 3, 0] dX4_rings_54 rfl ic_1 (Nat.le_of_ble_eq_true rfl) rfl ?_
          refine g_goto (tgt := 6) C dX4_rings_57 (by decide) ?_
          exact ih x4 r3 (v3 + (1 : Int32)) hf
set_option maxHeartbeats 4000000 in
set_option maxRecDepth 100000 in
theorem mX4_rings (l0 : Launch) (D0 : va_G) (K0 : Nat → ClassId) (h : Nat → Nat) (σ : pS)  {r : Int32} {u : pS} (hf : fX4_rings σ = some (r, u)) : Met l0 yX4_rings wsX4_rings ({ frames := 3, cells := 0, slots := 0, locals := 67 } : Room) (va_Pc [.ref (h 0)] (pIn wX D0 K0 h σ)) (va_Qi (fun r' u' => r' = r ∧ u' = u) (pOut wX D0 K0 h) (pA wX h)) 0 0 (pA wX h) := by
  refine p_metI (lv := [(0, .ref (h 0))]) (by decide +kernel) rfl rfl (Nat.le_of_ble_eq_true rfl) rfl (fun X C hret => ?_)
  unfold fX4_rings at hf
  refine g_iconst C dX4_rings_0 ic_0 ?_
  refine g_istore_n C [1, 0] dX4_rings_1 rfl (Nat.le_of_ble_eq_true rfl) rfl ?_
  refine g_iconst C dX4_rings_2 ic_0 ?_
  refine g_istore_n C [1, 2, 0] dX4_rings_3 rfl (Nat.le_of_ble_eq_true rfl) rfl ?_
  refine g_iconst C dX4_rings_4 ic_0 ?_
  refine g_istore_n C [1, 2, 3, 0] dX4_rings_5 rfl (Nat.le_of_ble_eq_true rfl) rfl ?_
  refine lX4_rings_6_ok σ C hret (fun y6 y7 hf => ?_) FU (0 : Int32) (0 : Int32) (0 : Int32) hf
  refine g_aload_n C 0 dX4_rings_60 rfl rfl ?_
  refine g_iload_n C 2 dX4_rings_61 rfl rfl ?_
  refine g_putI C in_X4_rings_X4 (k := 9) lk_X4_rings_6 rfl (Nat.le_of_ble_eq_true rfl) rfl (Nat.le_of_ble_eq_true rfl) tyX4 tyX4_ok nmX4 rfl rfl rfl rfl dX4_rings_62 ?_
  refine g_lets hf (fun σ8 hf => ?_)
  refine g_iload_n C 1 dX4_rings_65 rfl rfl ?_
  exact g_retiW hf hret dX4_rings_66
/-! X4_few -/
theorem in_X4_few_X3 : ∀ q ∈ u_ws RX3 TX3 11, q ∈ wsX4_few := by decide +kernel
theorem in_X4_few_X4 : ∀ q ∈ u_ws RX4 TX4 13, q ∈ wsX4_few := by decide +kernel
theorem lk_X4_few_0 : Cond.fieldLink RX4 53 "EmptyHouse" "live" "LEmptyHouse$Village;" ∈ wsX4_few := by decide +kernel
theorem lk_X4_few_1 : Cond.fieldLink RX4 124 "EmptyHouse$Village" "people" "I" ∈ wsX4_few := by decide +kernel
theorem lk_X4_few_2 : Cond.fieldLink RX4 43 "EmptyHouse" "rounds" "LEmptyHouse$Rounds;" ∈ wsX4_few := by decide +kernel
theorem lk_X4_few_3 : Cond.fieldLink RX4 57 "EmptyHouse" "told" "I" ∈ wsX4_few := by decide +kernel
theorem ddX4_few : yX4_few.cls = RX4 ∧ yX4_few.cls ≠ "java/lang/invoke/MethodHandle" ∧ yX4_few.cls ≠ "java/lang/invoke/VarHandle" ∧ (parseMethodDescriptor yX4_few.desc).map (fun d => d.parameters.length) = some 2 := by decide +kernel
set_option maxHeartbeats 4000000 in
set_option maxRecDepth 100000 in
theorem lX4_few_39_ok {h : Nat → Nat} {X : Cx} {l0 : Launch} {D0 : va_G} {K0 : Nat → ClassId} (σ : pS) (p1 : Int32) (p2 : Int32) (p3 : Int32) {k111 : Int32 → Int32 → Option (Int32 × pS)} {r : Int32} {u : pS} (C : Cok wX h X l0 ({ frames := 5, cells := 0, slots := 0, locals := 114 } : Room) D0 K0 cX4_few 8 RX4 wsX4_few) (hret : ∀ (pc : Nat) (lv' : List (Nat × Value)), decode cX4_few pc = .ok (.ireturn, 1) → G wX h X pc lv' [.int r] u) (hk111 : ∀ (z4 : Int32) (z5 : Int32), k111 z4 z5 = some (r, u) → G wX h X 111 [(0, .ref (h 0)), (4, .int z4), (5, .int z5)] [] σ) : ∀ (F : Nat) (v4 : Int32) (v5 : Int32) (v6 : Int32), lX4_few_39 σ p1 p2 p3 k111 F v4 v5 v6 = some (r, u) → G wX h X 39 [(0, .ref (h 0)), (1, .int p1), (2, .int p2), (3, .int p3), (4, .int v4), (5, .int v5), (6, .int v6)] [] σ := by
  intro F
  induction F with
  | zero => intro v4 v5 v6 hf; exact absurd hf (by simp [lX4_few_39])
  | succ F ih =>
    intro v4 v5 v6 hf
    rw [lX4_few_39.eq_2] at hf
    refine g_iload C 6 dX4_few_39 rfl ?_
    refine g_iconst C dX4_few_41 ic_1 ?_
    refine g_aload_n C 0 dX4_few_42 rfl rfl ?_
    refine g_getR C in_X4_few_X4 (k := 8) lk_X4_few_0 rfl (Nat.le_of_ble_eq_true rfl) rfl (Nat.le_of_ble_eq_true rfl) rfl dX4_few_43 ?_
    obtain ⟨hg6, hf⟩ := g_guard hf
    refine g_getI C in_X4_few_X3 (k := 0) lk_X4_few_1 rfl (Nat.le_of_ble_eq_true rfl) (shV hg6) (ltV hg6) rfl dX4_few_46 ?_
    refine g_ishl C dX4_few_49 ?_
    refine g_icmp_ge (tgt := 111) hf C dX4_few_50 (by decide) (fun hf => ?_) (fun hf => ?_)
    · refine g_lv [0, 4, 5] rfl ?_
      exact hk111 v4 v5 hf
    · refine g_iload C 6 dX4_few_53 rfl ?_
      obtain ⟨r8, hc7, hf⟩ := g_bind hf
      refine g_callSi C (mJ6_bitCount_0f7a4 l0 D0 K0 h σ v6 hc7) gX4_few_J6_bitCount_0f7a4 rfl rfl rfl ddJ6_bitCount_0f7a4 ⟨(Nat.le_of_ble_eq_true rfl), (Nat.le_of_ble_eq_true rfl)⟩ rfl rfl (Nat.le_of_ble_eq_true rfl) dX4_few_55 ?_
      refine g_istore C [1, 2, 3, 4, 5, 6, 7, 0] dX4_few_58 (Nat.le_of_ble_eq_true rfl) rfl ?_
      refine g_iload C 7 dX4_few_60 rfl ?_
      refine g_iload C 4 dX4_few_62 rfl ?_
      refine g_icmp_ge (tgt := 105) hf C dX4_few_64 (by decide) (fun hf => ?_) (fun hf => ?_)
      · refine g_iinc C 6 [1, 2, 3, 4, 5, 6, 0] dX4_few_105 rfl ic_1 (Nat.le_of_ble_eq_true rfl) rfl ?_
        refine g_goto (tgt := 39) C dX4_few_108 (by decide) ?_
        exact ih v4 v5 (v6 + (1 : Int32)) hf
      · refine g_iload C 6 dX4_few_67 rfl ?_
        refine g_iload_n C 3 dX4_few_69 rfl rfl ?_
        refine g_iand C dX4_few_70 ?_
        refine g_if_ne (tgt := 105) hf C dX4_few_71 (by decide) (fun hf => ?_) (fun hf => ?_)
        · refine g_iinc C 6 [1, 2, 3, 4, 5, 6, 0] dX4_few_105 rfl ic_1 (Nat.le_of_ble_eq_true rfl) rfl ?_
          refine g_goto (tgt := 39) C dX4_few_108 (by decide) ?_
          exact ih v4 v5 (v6 + (1 : Int32)) hf
        · refine g_aload_n C 0 dX4_few_74 rfl rfl ?_
          refine g_getC (n := 3) C in_X4_few_X4 (k := 6) lk_X4_few_2 rfl (Nat.le_of_ble_eq_true rfl) rfl (Nat.le_of_ble_eq_true rfl) rfl dX4_few_75 ?_
          refine g_aload_n C 0 dX4_few_78 rfl rfl ?_
          refine g_getR C in_X4_few_X4 (k := 8) lk_X4_few_0 rfl (Nat.le_of_ble_eq_true rfl) rfl (Nat.le_of_ble_eq_true rfl) rfl dX4_few_79 ?_
          refine g_iload_n C 1 dX4_few_82 rfl rfl ?_
          refine g_iload_n C 3 dX4_few_83 rfl rfl ?_
          refine g_iload C 6 dX4_few_84 rfl ?_
          refine g_ior C dX4_few_86 ?_
          obtain ⟨r10, hc9, hf⟩ := g_bind hf
          refine g_callVi C (mX3_payableDebts l0 D0 K0 h σ (pR σ 0 8) p1 (p3 ||| v6) hc9) gX4_few_X3_payableDebts rfl rfl rfl ddX3_payableDebts ⟨(Nat.le_of_ble_eq_true rfl), (Nat.le_of_ble_eq_true rfl)⟩ (shV hg6) (ltV hg6) rfl rfl rfl (Nat.le_of_ble_eq_true rfl) dX4_few_87 ?_
          obtain ⟨r12, hc11, hf⟩ := g_bind hf
          refine g_callVi C (mX2_mostAtOnce l0 D0 K0 h σ r10 hc11) gX4_few_X2_mostAtOnce rfl rfl rfl ddX2_mostAtOnce ⟨(Nat.le_of_ble_eq_true rfl), (Nat.le_of_ble_eq_true rfl)⟩ rfl (Nat.le_of_ble_eq_true rfl) rfl rfl rfl (Nat.le_of_ble_eq_true rfl) dX4_few_90 ?_
          refine g_iload_n C 2 dX4_few_93 rfl rfl ?_
          refine g_icmp_lt (tgt := 105) hf C dX4_few_94 (by decide) (fun hf => ?_) (fun hf => ?_)
          · refine g_iinc C 6 [1, 2, 3, 4, 5, 6, 0] dX4_few_105 rfl ic_1 (Nat.le_of_ble_eq_true rfl) rfl ?_
            refine g_goto (tgt := 39) C dX4_few_108 (by decide) ?_
            exact ih v4 v5 (v6 + (1 : Int32)) hf
          · refine g_iload C 7 dX4_few_97 rfl ?_
            refine g_istore C [1, 2, 3, 4, 0, 6] dX4_few_99 (Nat.le_of_ble_eq_true rfl) rfl ?_
            refine g_iload C 5 dX4_few_101 rfl ?_
            refine g_istore C [1, 2, 3, 4, 5, 0, 6] dX4_few_103 (Nat.le_of_ble_eq_true rfl) rfl ?_
            refine g_iinc C 6 [1, 2, 3, 4, 5, 6, 0] dX4_few_105 rfl ic_1 (Nat.le_of_ble_eq_true rfl) rfl ?_
            refine g_goto (tgt := 39) C dX4_few_108 (by decide) ?_
            exact ih r8 v6 (v6 + (1 : Int32)) hf
set_option maxHeartbeats 4000000 in
set_option maxRecDepth 100000 in
theorem mX4_few (l0 : Launch) (D0 : va_G) (K0 : Nat → ClassId) (h : Nat → Nat) (σ : pS) (a1 : Int32) (a2 : Int32) {r : Int32} {u : pS} (hf : fX4_few σ a1 a2 = some (r, u)) : Met l0 yX4_few wsX4_few ({ frames := 5, cells := 0, slots := 0, locals := 114 } : Room) (va_Pc [.ref (h 0), .int a1, .int a2] (pIn wX D0 K0 h σ)) (va_Qi (fun r' u' => r' = r ∧ u' = u) (pOut wX D0 K0 h) (pA wX h)) 0 0 (pA wX h) := by
  refine p_metI (lv := [(0, .ref (h 0)), (1, .int a1), (2, .int a2)]) (by decide +kernel) rfl rfl (Nat.le_of_ble_eq_true rfl) rfl (fun X C hret => ?_)
  unfold fX4_few at hf
  refine g_iload_n C 1 dX4_few_0 rfl rfl ?_
  obtain ⟨r2, hc1, hf⟩ := g_bind hf
  refine g_callSi C (mX4_isHour l0 D0 K0 h σ a1 hc1) gX4_few_X4_isHour rfl rfl rfl ddX4_isHour ⟨(Nat.le_of_ble_eq_true rfl), (Nat.le_of_ble_eq_true rfl)⟩ rfl rfl (Nat.le_of_ble_eq_true rfl) dX4_few_1 ?_
  refine g_if_eq (tgt := 18) hf C dX4_few_4 (by decide) (fun hf => ?_) (fun hf => ?_)
  · refine g_iconst C dX4_few_18 ic_m1 ?_
    exact g_retiW hf hret dX4_few_19
  · refine g_iload_n C 2 dX4_few_7 rfl rfl ?_
    refine g_iconst C dX4_few_8 ic_1 ?_
    refine g_icmp_lt (tgt := 18) hf C dX4_few_9 (by decide) (fun hf => ?_) (fun hf => ?_)
    · refine g_iconst C dX4_few_18 ic_m1 ?_
      exact g_retiW hf hret dX4_few_19
    · refine g_iload_n C 2 dX4_few_12 rfl rfl ?_
      refine g_bipush C dX4_few_13 bp_8 ?_
      refine g_icmp_le (tgt := 20) hf C dX4_few_15 (by decide) (fun hf => ?_) (fun hf => ?_)
      · refine g_aload_n C 0 dX4_few_20 rfl rfl ?_
        refine g_getR C in_X4_few_X4 (k := 8) lk_X4_few_0 rfl (Nat.le_of_ble_eq_true rfl) rfl (Nat.le_of_ble_eq_true rfl) rfl dX4_few_21 ?_
        refine g_iload_n C 1 dX4_few_24 rfl rfl ?_
        obtain ⟨hg3, hf⟩ := g_guard hf
        obtain ⟨r5, hc4, hf⟩ := g_bind hf
        refine g_callVi C (mX3_peopleOut l0 D0 K0 h σ (pR σ 0 8) a1 hc4) gX4_few_X3_peopleOut rfl rfl rfl ddX3_peopleOut ⟨(Nat.le_of_ble_eq_true rfl), (Nat.le_of_ble_eq_true rfl)⟩ (shV hg3) (ltV hg3) rfl rfl rfl (Nat.le_of_ble_eq_true rfl) dX4_few_25 ?_
        refine g_istore_n C [1, 2, 3, 0] dX4_few_28 rfl (Nat.le_of_ble_eq_true rfl) rfl ?_
        refine g_bipush C dX4_few_29 bp_7 ?_
        refine g_istore C [1, 2, 3, 4, 0] dX4_few_31 (Nat.le_of_ble_eq_true rfl) rfl ?_
        refine g_iconst C dX4_few_33 ic_0 ?_
        refine g_istore C [1, 2, 3, 4, 5, 0] dX4_few_34 (Nat.le_of_ble_eq_true rfl) rfl ?_
        refine g_iconst C dX4_few_36 ic_0 ?_
        refine g_istore C [1, 2, 3, 4, 5, 6, 0] dX4_few_37 (Nat.le_of_ble_eq_true rfl) rfl ?_
        refine lX4_few_39_ok σ a1 a2 r5 C hret (fun y13 y14 hf => ?_) FU (7 : Int32) (0 : Int32) (0 : Int32) hf
        refine g_iload C 1 dX4_few_111 rfl ?_
        refine g_bipush C dX4_few_113 bp_6 ?_
        refine g_icmp_le (tgt := 121) hf C dX4_few_115 (by decide) (fun hf => ?_) (fun hf => ?_)
        · refine g_aload_n C 0 dX4_few_121 rfl rfl ?_
          refine g_iload C 2 dX4_few_122 rfl ?_
          refine g_putI C in_X4_few_X4 (k := 9) lk_X4_few_3 rfl (Nat.le_of_ble_eq_true rfl) rfl (Nat.le_of_ble_eq_true rfl) tyX4 tyX4_ok nmX4 rfl rfl rfl rfl dX4_few_124 ?_
          refine g_lets hf (fun σ15 hf => ?_)
          refine g_iload C 1 dX4_few_127 rfl ?_
          exact g_retiW hf hret dX4_few_129
        · refine g_bipush C dX4_few_118 bp_m9 ?_
          exact g_retiW hf hret dX4_few_120
      · refine g_iconst C dX4_few_18 ic_m1 ?_
        exact g_retiW hf hret dX4_few_19
/-! X4_call -/
theorem in_X4_call_X2 : ∀ q ∈ u_ws RX2 TX2 12, q ∈ wsX4_call := by decide +kernel
theorem in_X4_call_X4 : ∀ q ∈ u_ws RX4 TX4 13, q ∈ wsX4_call := by decide +kernel
theorem lk_X4_call_0 : Cond.fieldLink RX4 43 "EmptyHouse" "rounds" "LEmptyHouse$Rounds;" ∈ wsX4_call := by decide +kernel
theorem lk_X4_call_1 : Cond.fieldLink RX4 53 "EmptyHouse" "live" "LEmptyHouse$Village;" ∈ wsX4_call := by decide +kernel
theorem lk_X4_call_2 : Cond.fieldLink RX4 242 "EmptyHouse$Rounds" "callLoss" "I" ∈ wsX4_call := by decide +kernel
theorem lk_X4_call_3 : Cond.fieldLink RX4 57 "EmptyHouse" "told" "I" ∈ wsX4_call := by decide +kernel
theorem lk_X4_call_4 : Cond.fieldLink RX4 245 "EmptyHouse$Rounds" "callPerson" "I" ∈ wsX4_call := by decide +kernel
theorem lk_X4_call_5 : Cond.fieldLink RX4 248 "EmptyHouse$Rounds" "callHour" "I" ∈ wsX4_call := by decide +kernel
theorem ddX4_call : yX4_call.cls = RX4 ∧ yX4_call.cls ≠ "java/lang/invoke/MethodHandle" ∧ yX4_call.cls ≠ "java/lang/invoke/VarHandle" ∧ (parseMethodDescriptor yX4_call.desc).map (fun d => d.parameters.length) = some 0 := by decide +kernel
set_option maxHeartbeats 4000000 in
set_option maxRecDepth 100000 in
theorem mX4_call (l0 : Launch) (D0 : va_G) (K0 : Nat → ClassId) (h : Nat → Nat) (σ : pS)  {r : Int32} {u : pS} (hf : fX4_call σ = some (r, u)) : Met l0 yX4_call wsX4_call ({ frames := 6, cells := 0, slots := 0, locals := 139 } : Room) (va_Pc [.ref (h 0)] (pIn wX D0 K0 h σ)) (va_Qi (fun r' u' => r' = r ∧ u' = u) (pOut wX D0 K0 h) (pA wX h)) 0 0 (pA wX h) := by
  refine p_metI (lv := [(0, .ref (h 0))]) (by decide +kernel) rfl rfl (Nat.le_of_ble_eq_true rfl) rfl (fun X C hret => ?_)
  unfold fX4_call at hf
  refine g_aload_n C 0 dX4_call_0 rfl rfl ?_
  refine g_getC (n := 3) C in_X4_call_X4 (k := 6) lk_X4_call_0 rfl (Nat.le_of_ble_eq_true rfl) rfl (Nat.le_of_ble_eq_true rfl) rfl dX4_call_1 ?_
  refine g_aload_n C 0 dX4_call_4 rfl rfl ?_
  refine g_getR C in_X4_call_X4 (k := 8) lk_X4_call_1 rfl (Nat.le_of_ble_eq_true rfl) rfl (Nat.le_of_ble_eq_true rfl) rfl dX4_call_5 ?_
  obtain ⟨r2, σ3, hc1, hf⟩ := g_pbind hf
  refine g_callVv C (mX2_solve l0 D0 K0 h σ (pR σ 0 8) hc1) gX4_call_X2_solve rfl rfl rfl ddX2_solve ⟨(Nat.le_of_ble_eq_true rfl), (Nat.le_of_ble_eq_true rfl)⟩ rfl (Nat.le_of_ble_eq_true rfl) rfl rfl rfl (Nat.le_of_ble_eq_true rfl) dX4_call_8 ?_
  refine g_aload_n C 0 dX4_call_11 rfl rfl ?_
  refine g_getC (n := 3) C in_X4_call_X4 (k := 6) lk_X4_call_0 rfl (Nat.le_of_ble_eq_true rfl) rfl (Nat.le_of_ble_eq_true rfl) rfl dX4_call_12 ?_
  refine g_aload_n C 0 dX4_call_15 rfl rfl ?_
  refine g_getR C in_X4_call_X4 (k := 8) lk_X4_call_1 rfl (Nat.le_of_ble_eq_true rfl) rfl (Nat.le_of_ble_eq_true rfl) rfl dX4_call_16 ?_
  obtain ⟨r5, σ6, hc4, hf⟩ := g_pbind hf
  refine g_callVi C (mX2_findCall l0 D0 K0 h σ3 (pR σ3 0 8) hc4) gX4_call_X2_findCall rfl rfl rfl ddX2_findCall ⟨(Nat.le_of_ble_eq_true rfl), (Nat.le_of_ble_eq_true rfl)⟩ rfl (Nat.le_of_ble_eq_true rfl) rfl rfl rfl (Nat.le_of_ble_eq_true rfl) dX4_call_19 ?_
  refine g_if_ne (tgt := 28) hf C dX4_call_22 (by decide) (fun hf => ?_) (fun hf => ?_)
  · refine g_aload_n C 0 dX4_call_28 rfl rfl ?_
    refine g_aload_n C 0 dX4_call_29 rfl rfl ?_
    refine g_getC (n := 3) C in_X4_call_X4 (k := 6) lk_X4_call_0 rfl (Nat.le_of_ble_eq_true rfl) rfl (Nat.le_of_ble_eq_true rfl) rfl dX4_call_30 ?_
    refine g_aload_n C 0 dX4_call_33 rfl rfl ?_
    refine g_getC (n := 3) C in_X4_call_X4 (k := 6) lk_X4_call_0 rfl (Nat.le_of_ble_eq_true rfl) rfl (Nat.le_of_ble_eq_true rfl) rfl dX4_call_34 ?_
    obtain ⟨r8, hc7, hf⟩ := g_bind hf
    refine g_callVi C (mX2_leastLoss l0 D0 K0 h σ6 hc7) gX4_call_X2_leastLoss rfl rfl rfl ddX2_leastLoss ⟨(Nat.le_of_ble_eq_true rfl), (Nat.le_of_ble_eq_true rfl)⟩ rfl (Nat.le_of_ble_eq_true rfl) rfl rfl rfl (Nat.le_of_ble_eq_true rfl) dX4_call_37 ?_
    obtain ⟨r10, hc9, hf⟩ := g_bind hf
    refine g_callVi C (mX2_interestOf l0 D0 K0 h σ6 r8 hc9) gX4_call_X2_interestOf rfl rfl rfl ddX2_interestOf ⟨(Nat.le_of_ble_eq_true rfl), (Nat.le_of_ble_eq_true rfl)⟩ rfl (Nat.le_of_ble_eq_true rfl) rfl rfl rfl (Nat.le_of_ble_eq_true rfl) dX4_call_40 ?_
    refine g_aload_n C 0 dX4_call_43 rfl rfl ?_
    refine g_getC (n := 3) C in_X4_call_X4 (k := 6) lk_X4_call_0 rfl (Nat.le_of_ble_eq_true rfl) rfl (Nat.le_of_ble_eq_true rfl) rfl dX4_call_44 ?_
    refine g_aload_n C 0 dX4_call_47 rfl rfl ?_
    refine g_getC (n := 3) C in_X4_call_X4 (k := 6) lk_X4_call_0 rfl (Nat.le_of_ble_eq_true rfl) rfl (Nat.le_of_ble_eq_true rfl) rfl dX4_call_48 ?_
    refine g_getI C in_X4_call_X2 (k := 9) lk_X4_call_2 rfl (Nat.le_of_ble_eq_true rfl) rfl (Nat.le_of_ble_eq_true rfl) rfl dX4_call_51 ?_
    obtain ⟨r12, hc11, hf⟩ := g_bind hf
    refine g_callVi C (mX2_interestOf l0 D0 K0 h σ6 (pI σ6 3 9) hc11) gX4_call_X2_interestOf rfl rfl rfl ddX2_interestOf ⟨(Nat.le_of_ble_eq_true rfl), (Nat.le_of_ble_eq_true rfl)⟩ rfl (Nat.le_of_ble_eq_true rfl) rfl rfl rfl (Nat.le_of_ble_eq_true rfl) dX4_call_54 ?_
    refine g_isub C dX4_call_57 ?_
    refine g_putI C in_X4_call_X4 (k := 9) lk_X4_call_3 rfl (Nat.le_of_ble_eq_true rfl) rfl (Nat.le_of_ble_eq_true rfl) tyX4 tyX4_ok nmX4 rfl rfl rfl rfl dX4_call_58 ?_
    refine g_lets hf (fun σ13 hf => ?_)
    refine g_bipush C dX4_call_61 bp_100 ?_
    refine g_aload_n C 0 dX4_call_63 rfl rfl ?_
    refine g_getC (n := 3) C in_X4_call_X4 (k := 6) lk_X4_call_0 rfl (Nat.le_of_ble_eq_true rfl) rfl (Nat.le_of_ble_eq_true rfl) rfl dX4_call_64 ?_
    refine g_getI C in_X4_call_X2 (k := 10) lk_X4_call_4 rfl (Nat.le_of_ble_eq_true rfl) rfl (Nat.le_of_ble_eq_true rfl) rfl dX4_call_67 ?_
    refine g_imul C dX4_call_70 ?_
    refine g_aload_n C 0 dX4_call_71 rfl rfl ?_
    refine g_getC (n := 3) C in_X4_call_X4 (k := 6) lk_X4_call_0 rfl (Nat.le_of_ble_eq_true rfl) rfl (Nat.le_of_ble_eq_true rfl) rfl dX4_call_72 ?_
    refine g_getI C in_X4_call_X2 (k := 11) lk_X4_call_5 rfl (Nat.le_of_ble_eq_true rfl) rfl (Nat.le_of_ble_eq_true rfl) rfl dX4_call_75 ?_
    refine g_iadd C dX4_call_78 ?_
    exact g_retiW hf hret dX4_call_79
  · refine g_bipush C dX4_call_25 bp_m9 ?_
    exact g_retiW hf hret dX4_call_27
/-! X4_stay -/
theorem in_X4_stay_X3 : ∀ q ∈ u_ws RX3 TX3 11, q ∈ wsX4_stay := by decide +kernel
theorem in_X4_stay_X4 : ∀ q ∈ u_ws RX4 TX4 13, q ∈ wsX4_stay := by decide +kernel
theorem lk_X4_stay_0 : Cond.fieldLink RX4 53 "EmptyHouse" "live" "LEmptyHouse$Village;" ∈ wsX4_stay := by decide +kernel
theorem lk_X4_stay_1 : Cond.fieldLink RX4 155 "EmptyHouse$Village" "out" "[I" ∈ wsX4_stay := by decide +kernel
theorem lk_X4_stay_2 : Cond.fieldLink RX4 43 "EmptyHouse" "rounds" "LEmptyHouse$Rounds;" ∈ wsX4_stay := by decide +kernel
theorem lk_X4_stay_3 : Cond.fieldLink RX4 57 "EmptyHouse" "told" "I" ∈ wsX4_stay := by decide +kernel
theorem ddX4_stay : yX4_stay.cls = RX4 ∧ yX4_stay.cls ≠ "java/lang/invoke/MethodHandle" ∧ yX4_stay.cls ≠ "java/lang/invoke/VarHandle" ∧ (parseMethodDescriptor yX4_stay.desc).map (fun d => d.parameters.length) = some 1 := by decide +kernel
set_option maxHeartbeats 4000000 in
set_option maxRecDepth 100000 in
theorem lX4_stay_68_ok {h : Nat → Nat} {X : Cx} {l0 : Launch} {D0 : va_G} {K0 : Nat → ClassId} (p1 : Int32) (p2 : Int32) {k136 : Int32 → Int32 → pS → Option (Int32 × pS)} {r : Int32} {u : pS} (C : Cok wX h X l0 ({ frames := 6, cells := 0, slots := 0, locals := 140 } : Room) D0 K0 cX4_stay 7 RX4 wsX4_stay) (hret : ∀ (pc : Nat) (lv' : List (Nat × Value)), decode cX4_stay pc = .ok (.ireturn, 1) → G wX h X pc lv' [.int r] u) (hk136 : ∀ (z3 : Int32) (z4 : Int32) (σ : pS), k136 z3 z4 σ = some (r, u) → G wX h X 136 [(0, .ref (h 0)), (2, .int p2), (3, .int z3), (4, .int z4)] [] σ) : ∀ (F : Nat) (v3 : Int32) (v4 : Int32) (v5 : Int32) (σ : pS), lX4_stay_68 p1 p2 k136 F v3 v4 v5 σ = some (r, u) → G wX h X 68 [(0, .ref (h 0)), (1, .int p1), (2, .int p2), (3, .int v3), (4, .int v4), (5, .int v5)] [] σ := by
  intro F
  induction F with
  | zero => intro v3 v4 v5 σ hf; exact absurd hf (by simp [lX4_stay_68])
  | succ F ih =>
    intro v3 v4 v5 σ hf
    rw [lX4_stay_68.eq_2] at hf
    refine g_iload C 5 dX4_stay_68 rfl ?_
    refine g_bipush C dX4_stay_70 bp_12 ?_
    refine g_icmp_ge (tgt := 136) hf C dX4_stay_72 (by decide) (fun hf => ?_) (fun hf => ?_)
    · refine g_lv [0, 2, 3, 4] rfl ?_
      exact hk136 v3 v4 σ hf
    · refine g_aload_n C 0 dX4_stay_75 rfl rfl ?_
      refine g_getR C in_X4_stay_X4 (k := 8) lk_X4_stay_0 rfl (Nat.le_of_ble_eq_true rfl) rfl (Nat.le_of_ble_eq_true rfl) rfl dX4_stay_76 ?_
      obtain ⟨hg12, hf⟩ := g_guard hf
      refine g_getC (n := (pR σ 0 8) + 3) C in_X4_stay_X3 (k := 5) lk_X4_stay_1 rfl (Nat.le_of_ble_eq_true rfl) (shV hg12) (ltV hg12) rfl dX4_stay_79 ?_
      refine g_iload_n C 1 dX4_stay_82 rfl rfl ?_
      refine g_iald hf C (shV3 hg12).1 (shV3 hg12).2 dX4_stay_83 (fun hf => ?_)
      refine g_iload C 5 dX4_stay_84 rfl ?_
      refine g_ishr C dX4_stay_86 ?_
      refine g_iconst C dX4_stay_87 ic_1 ?_
      refine g_iand C dX4_stay_88 ?_
      refine g_iconst C dX4_stay_89 ic_1 ?_
      refine g_icmp_ne (tgt := 130) hf C dX4_stay_90 (by decide) (fun hf => ?_) (fun hf => ?_)
      · refine g_iinc C 5 [1, 2, 3, 4, 5, 0] dX4_stay_130 rfl ic_1 (Nat.le_of_ble_eq_true rfl) rfl ?_
        refine g_goto (tgt := 68) C dX4_stay_133 (by decide) ?_
        exact ih v3 v4 (v5 + (1 : Int32)) σ hf
      · refine g_aload_n C 0 dX4_stay_93 rfl rfl ?_
        refine g_getC (n := 3) C in_X4_stay_X4 (k := 6) lk_X4_stay_2 rfl (Nat.le_of_ble_eq_true rfl) rfl (Nat.le_of_ble_eq_true rfl) rfl dX4_stay_94 ?_
        refine g_aload_n C 0 dX4_stay_97 rfl rfl ?_
        refine g_getR C in_X4_stay_X4 (k := 8) lk_X4_stay_0 rfl (Nat.le_of_ble_eq_true rfl) rfl (Nat.le_of_ble_eq_true rfl) rfl dX4_stay_98 ?_
        refine g_iload_n C 1 dX4_stay_101 rfl rfl ?_
        refine g_iload C 5 dX4_stay_102 rfl ?_
        refine g_iload_n C 2 dX4_stay_104 rfl rfl ?_
        obtain ⟨r14, σ15, hc13, hf⟩ := g_pbind hf
        refine g_callVi C (mX2_paidWithout l0 D0 K0 h σ (pR σ 0 8) p1 v5 p2 hc13) gX4_stay_X2_paidWithout rfl rfl rfl ddX2_paidWithout ⟨(Nat.le_of_ble_eq_true rfl), (Nat.le_of_ble_eq_true rfl)⟩ rfl (Nat.le_of_ble_eq_true rfl) rfl rfl rfl (Nat.le_of_ble_eq_true rfl) dX4_stay_105 ?_
        refine g_istore C [1, 2, 3, 4, 5, 6, 0] dX4_stay_108 (Nat.le_of_ble_eq_true rfl) rfl ?_
        refine g_iload C 4 dX4_stay_110 rfl ?_
        refine g_bipush C dX4_stay_112 bp_m9 ?_
        refine g_join (P := fun j => j = some (r, u) → G wX h X 123 [(0, .ref (h 0)), (1, .int p1), (2, .int p2), (5, .int v5), (6, .int r14)] [] σ15) hf (fun hf => ?_) (fun j16 hj16 hf => ?_)
        · refine g_iload C 4 dX4_stay_123 rfl ?_
          refine g_istore_n C [1, 2, 3, 0, 4] dX4_stay_125 rfl (Nat.le_of_ble_eq_true rfl) rfl ?_
          refine g_iload C 4 dX4_stay_126 rfl ?_
          refine g_istore C [1, 2, 3, 4, 0, 5] dX4_stay_128 (Nat.le_of_ble_eq_true rfl) rfl ?_
          refine g_iinc C 5 [1, 2, 3, 4, 5, 0] dX4_stay_130 rfl ic_1 (Nat.le_of_ble_eq_true rfl) rfl ?_
          refine g_goto (tgt := 68) C dX4_stay_133 (by decide) ?_
          exact ih r14 v5 (v5 + (1 : Int32)) σ15 hf
        · refine g_icmp_eq (tgt := 123) hf C dX4_stay_114 (by decide) (fun hf => ?_) (fun hf => ?_)
          · refine g_lv [0, 1, 2, 5, 6] rfl ?_
            exact hj16 hf
          · refine g_iload C 6 dX4_stay_117 rfl ?_
            refine g_iload_n C 3 dX4_stay_119 rfl rfl ?_
            refine g_icmp_le (tgt := 130) hf C dX4_stay_120 (by decide) (fun hf => ?_) (fun hf => ?_)
            · refine g_iinc C 5 [1, 2, 3, 4, 5, 0] dX4_stay_130 rfl ic_1 (Nat.le_of_ble_eq_true rfl) rfl ?_
              refine g_goto (tgt := 68) C dX4_stay_133 (by decide) ?_
              exact ih v3 v4 (v5 + (1 : Int32)) σ15 hf
            · refine g_lv [0, 1, 2, 5, 6] rfl ?_
              exact hj16 hf
set_option maxHeartbeats 4000000 in
set_option maxRecDepth 100000 in
theorem mX4_stay (l0 : Launch) (D0 : va_G) (K0 : Nat → ClassId) (h : Nat → Nat) (σ : pS) (a1 : Int32) {r : Int32} {u : pS} (hf : fX4_stay σ a1 = some (r, u)) : Met l0 yX4_stay wsX4_stay ({ frames := 6, cells := 0, slots := 0, locals := 140 } : Room) (va_Pc [.ref (h 0), .int a1] (pIn wX D0 K0 h σ)) (va_Qi (fun r' u' => r' = r ∧ u' = u) (pOut wX D0 K0 h) (pA wX h)) 0 0 (pA wX h) := by
  refine p_metI (lv := [(0, .ref (h 0)), (1, .int a1)]) (by decide +kernel) rfl rfl (Nat.le_of_ble_eq_true rfl) rfl (fun X C hret => ?_)
  unfold fX4_stay at hf
  refine g_aload_n C 0 dX4_stay_0 rfl rfl ?_
  refine g_getR C in_X4_stay_X4 (k := 8) lk_X4_stay_0 rfl (Nat.le_of_ble_eq_true rfl) rfl (Nat.le_of_ble_eq_true rfl) rfl dX4_stay_1 ?_
  refine g_iload_n C 1 dX4_stay_4 rfl rfl ?_
  obtain ⟨hg1, hf⟩ := g_guard hf
  obtain ⟨r3, hc2, hf⟩ := g_bind hf
  refine g_callVi C (mX3_isPerson l0 D0 K0 h σ (pR σ 0 8) a1 hc2) gX4_stay_X3_isPerson rfl rfl rfl ddX3_isPerson ⟨(Nat.le_of_ble_eq_true rfl), (Nat.le_of_ble_eq_true rfl)⟩ (shV hg1) (ltV hg1) rfl rfl rfl (Nat.le_of_ble_eq_true rfl) dX4_stay_5 ?_
  refine g_if_ne (tgt := 13) hf C dX4_stay_8 (by decide) (fun hf => ?_) (fun hf => ?_)
  · refine g_aload_n C 0 dX4_stay_13 rfl rfl ?_
    refine g_getR C in_X4_stay_X4 (k := 8) lk_X4_stay_0 rfl (Nat.le_of_ble_eq_true rfl) rfl (Nat.le_of_ble_eq_true rfl) rfl dX4_stay_14 ?_
    refine g_getC (n := (pR σ 0 8) + 3) C in_X4_stay_X3 (k := 5) lk_X4_stay_1 rfl (Nat.le_of_ble_eq_true rfl) (shV hg1) (ltV hg1) rfl dX4_stay_17 ?_
    refine g_iload_n C 1 dX4_stay_20 rfl rfl ?_
    refine g_iald hf C (shV3 hg1).1 (shV3 hg1).2 dX4_stay_21 (fun hf => ?_)
    refine g_if_ne (tgt := 28) hf C dX4_stay_22 (by decide) (fun hf => ?_) (fun hf => ?_)
    · refine g_aload_n C 0 dX4_stay_28 rfl rfl ?_
      refine g_getC (n := 3) C in_X4_stay_X4 (k := 6) lk_X4_stay_2 rfl (Nat.le_of_ble_eq_true rfl) rfl (Nat.le_of_ble_eq_true rfl) rfl dX4_stay_29 ?_
      refine g_aload_n C 0 dX4_stay_32 rfl rfl ?_
      refine g_getR C in_X4_stay_X4 (k := 8) lk_X4_stay_0 rfl (Nat.le_of_ble_eq_true rfl) rfl (Nat.le_of_ble_eq_true rfl) rfl dX4_stay_33 ?_
      obtain ⟨r5, σ6, hc4, hf⟩ := g_pbind hf
      refine g_callVv C (mX2_solve l0 D0 K0 h σ (pR σ 0 8) hc4) gX4_stay_X2_solve rfl rfl rfl ddX2_solve ⟨(Nat.le_of_ble_eq_true rfl), (Nat.le_of_ble_eq_true rfl)⟩ rfl (Nat.le_of_ble_eq_true rfl) rfl rfl rfl (Nat.le_of_ble_eq_true rfl) dX4_stay_36 ?_
      refine g_aload_n C 0 dX4_stay_39 rfl rfl ?_
      refine g_getC (n := 3) C in_X4_stay_X4 (k := 6) lk_X4_stay_2 rfl (Nat.le_of_ble_eq_true rfl) rfl (Nat.le_of_ble_eq_true rfl) rfl dX4_stay_40 ?_
      obtain ⟨r8, σ9, hc7, hf⟩ := g_pbind hf
      refine g_callVv C (mX2_trace l0 D0 K0 h σ6 hc7) gX4_stay_X2_trace rfl rfl rfl ddX2_trace ⟨(Nat.le_of_ble_eq_true rfl), (Nat.le_of_ble_eq_true rfl)⟩ rfl (Nat.le_of_ble_eq_true rfl) rfl rfl rfl (Nat.le_of_ble_eq_true rfl) dX4_stay_43 ?_
      refine g_aload_n C 0 dX4_stay_46 rfl rfl ?_
      refine g_getC (n := 3) C in_X4_stay_X4 (k := 6) lk_X4_stay_2 rfl (Nat.le_of_ble_eq_true rfl) rfl (Nat.le_of_ble_eq_true rfl) rfl dX4_stay_47 ?_
      refine g_aload_n C 0 dX4_stay_50 rfl rfl ?_
      refine g_getR C in_X4_stay_X4 (k := 8) lk_X4_stay_0 rfl (Nat.le_of_ble_eq_true rfl) rfl (Nat.le_of_ble_eq_true rfl) rfl dX4_stay_51 ?_
      refine g_iload_n C 1 dX4_stay_54 rfl rfl ?_
      obtain ⟨r11, hc10, hf⟩ := g_bind hf
      refine g_callVi C (mX2_paidTo l0 D0 K0 h σ9 (pR σ9 0 8) a1 hc10) gX4_stay_X2_paidTo rfl rfl rfl ddX2_paidTo ⟨(Nat.le_of_ble_eq_true rfl), (Nat.le_of_ble_eq_true rfl)⟩ rfl (Nat.le_of_ble_eq_true rfl) rfl rfl rfl (Nat.le_of_ble_eq_true rfl) dX4_stay_55 ?_
      refine g_istore_n C [1, 2, 0] dX4_stay_58 rfl (Nat.le_of_ble_eq_true rfl) rfl ?_
      refine g_iconst C dX4_stay_59 ic_0 ?_
      refine g_istore_n C [1, 2, 3, 0] dX4_stay_60 rfl (Nat.le_of_ble_eq_true rfl) rfl ?_
      refine g_bipush C dX4_stay_61 bp_m9 ?_
      refine g_istore C [1, 2, 3, 4, 0] dX4_stay_63 (Nat.le_of_ble_eq_true rfl) rfl ?_
      refine g_iconst C dX4_stay_65 ic_0 ?_
      refine g_istore C [1, 2, 3, 4, 5, 0] dX4_stay_66 (Nat.le_of_ble_eq_true rfl) rfl ?_
      refine lX4_stay_68_ok a1 r11 C hret (fun y17 y18 σ19 hf => ?_) FU (0 : Int32) (-9 : Int32) (0 : Int32) σ9 hf
      refine g_aload_n C 0 dX4_stay_136 rfl rfl ?_
      refine g_iload_n C 2 dX4_stay_137 rfl rfl ?_
      refine g_iload_n C 1 dX4_stay_138 rfl rfl ?_
      refine g_isub C dX4_stay_139 ?_
      refine g_putI C in_X4_stay_X4 (k := 9) lk_X4_stay_3 rfl (Nat.le_of_ble_eq_true rfl) rfl (Nat.le_of_ble_eq_true rfl) tyX4 tyX4_ok nmX4 rfl rfl rfl rfl dX4_stay_140 ?_
      refine g_lets hf (fun σ20 hf => ?_)
      refine g_iload C 3 dX4_stay_143 rfl ?_
      exact g_retiW hf hret dX4_stay_145
    · refine g_bipush C dX4_stay_25 bp_m9 ?_
      exact g_retiW hf hret dX4_stay_27
  · refine g_iconst C dX4_stay_11 ic_m1 ?_
    exact g_retiW hf hret dX4_stay_12
/-! X4_against -/
theorem in_X4_against_X3 : ∀ q ∈ u_ws RX3 TX3 11, q ∈ wsX4_against := by decide +kernel
theorem in_X4_against_X4 : ∀ q ∈ u_ws RX4 TX4 13, q ∈ wsX4_against := by decide +kernel
theorem lk_X4_against_0 : Cond.fieldLink RX4 53 "EmptyHouse" "live" "LEmptyHouse$Village;" ∈ wsX4_against := by decide +kernel
theorem lk_X4_against_1 : Cond.fieldLink RX4 36 "EmptyHouse" "books" "LEmptyHouse$Books;" ∈ wsX4_against := by decide +kernel
theorem lk_X4_against_2 : Cond.fieldLink RX4 265 "EmptyHouse$Village" "value" "[I" ∈ wsX4_against := by decide +kernel
theorem lk_X4_against_3 : Cond.fieldLink RX4 57 "EmptyHouse" "told" "I" ∈ wsX4_against := by decide +kernel
theorem lk_X4_against_4 : Cond.methodLink RX4 271 Lib.Math.abs.name ∈ wsX4_against := by decide +kernel
theorem lk_X4_against_5 : Cond.static Lib.Math.abs.name ∈ wsX4_against := by decide +kernel
theorem lk_X4_against_6 : Cond.initialized "java/lang/Math" ∈ wsX4_against := by decide +kernel
theorem lk_X4_against_7 : Cond.code Lib.Math.abs.name Lib.Math.abs.code 1 (some .int) ∈ wsX4_against := by decide +kernel
theorem lk_X4_against_8 : Cond.fieldLink RX4 268 "EmptyHouse$Village" "debtor" "[I" ∈ wsX4_against := by decide +kernel
theorem ddX4_against : yX4_against.cls = RX4 ∧ yX4_against.cls ≠ "java/lang/invoke/MethodHandle" ∧ yX4_against.cls ≠ "java/lang/invoke/VarHandle" ∧ (parseMethodDescriptor yX4_against.desc).map (fun d => d.parameters.length) = some 2 := by decide +kernel
set_option maxHeartbeats 4000000 in
set_option maxRecDepth 100000 in
theorem mX4_against (l0 : Launch) (D0 : va_G) (K0 : Nat → ClassId) (h : Nat → Nat) (σ : pS) (a1 : Int32) (a2 : Int32) {r : Int32} {u : pS} (hf : fX4_against σ a1 a2 = some (r, u)) : Met l0 yX4_against wsX4_against ({ frames := 1, cells := 0, slots := 0, locals := 22 } : Room) (va_Pc [.ref (h 0), .int a1, .int a2] (pIn wX D0 K0 h σ)) (va_Qi (fun r' u' => r' = r ∧ u' = u) (pOut wX D0 K0 h) (pA wX h)) 0 0 (pA wX h) := by
  refine p_metI (lv := [(0, .ref (h 0)), (1, .int a1), (2, .int a2)]) (by decide +kernel) rfl rfl (Nat.le_of_ble_eq_true rfl) rfl (fun X C hret => ?_)
  unfold fX4_against at hf
  refine g_aload_n C 0 dX4_against_0 rfl rfl ?_
  refine g_getR C in_X4_against_X4 (k := 8) lk_X4_against_0 rfl (Nat.le_of_ble_eq_true rfl) rfl (Nat.le_of_ble_eq_true rfl) rfl dX4_against_1 ?_
  refine g_iload_n C 1 dX4_against_4 rfl rfl ?_
  obtain ⟨hg1, hf⟩ := g_guard hf
  obtain ⟨r3, hc2, hf⟩ := g_bind hf
  refine g_callVi C (mX3_isDebt l0 D0 K0 h σ (pR σ 0 8) a1 hc2) gX4_against_X3_isDebt rfl rfl rfl ddX3_isDebt ⟨(Nat.le_of_ble_eq_true rfl), (Nat.le_of_ble_eq_true rfl)⟩ (shV hg1) (ltV hg1) rfl rfl rfl (Nat.le_of_ble_eq_true rfl) dX4_against_5 ?_
  refine g_if_eq (tgt := 27) hf C dX4_against_8 (by decide) (fun hf => ?_) (fun hf => ?_)
  · refine g_iconst C dX4_against_27 ic_m1 ?_
    exact g_retiW hf hret dX4_against_28
  · refine g_aload_n C 0 dX4_against_11 rfl rfl ?_
    refine g_getR C in_X4_against_X4 (k := 8) lk_X4_against_0 rfl (Nat.le_of_ble_eq_true rfl) rfl (Nat.le_of_ble_eq_true rfl) rfl dX4_against_12 ?_
    refine g_iload_n C 2 dX4_against_15 rfl rfl ?_
    obtain ⟨r5, hc4, hf⟩ := g_bind hf
    refine g_callVi C (mX3_isDebt l0 D0 K0 h σ (pR σ 0 8) a2 hc4) gX4_against_X3_isDebt rfl rfl rfl ddX3_isDebt ⟨(Nat.le_of_ble_eq_true rfl), (Nat.le_of_ble_eq_true rfl)⟩ (shV hg1) (ltV hg1) rfl rfl rfl (Nat.le_of_ble_eq_true rfl) dX4_against_16 ?_
    refine g_if_eq (tgt := 27) hf C dX4_against_19 (by decide) (fun hf => ?_) (fun hf => ?_)
    · refine g_iconst C dX4_against_27 ic_m1 ?_
      exact g_retiW hf hret dX4_against_28
    · refine g_iload_n C 1 dX4_against_22 rfl rfl ?_
      refine g_iload_n C 2 dX4_against_23 rfl rfl ?_
      refine g_icmp_ne (tgt := 29) hf C dX4_against_24 (by decide) (fun hf => ?_) (fun hf => ?_)
      · refine g_aload_n C 0 dX4_against_29 rfl rfl ?_
        refine g_getR C in_X4_against_X4 (k := 8) lk_X4_against_0 rfl (Nat.le_of_ble_eq_true rfl) rfl (Nat.le_of_ble_eq_true rfl) rfl dX4_against_30 ?_
        refine g_iload_n C 1 dX4_against_33 rfl rfl ?_
        refine g_iload_n C 2 dX4_against_34 rfl rfl ?_
        obtain ⟨r7, hc6, hf⟩ := g_bind hf
        refine g_callVi C (mX3_oweOneAnother l0 D0 K0 h σ (pR σ 0 8) a1 a2 hc6) gX4_against_X3_oweOneAnother rfl rfl rfl ddX3_oweOneAnother ⟨(Nat.le_of_ble_eq_true rfl), (Nat.le_of_ble_eq_true rfl)⟩ (shV hg1) (ltV hg1) rfl rfl rfl (Nat.le_of_ble_eq_true rfl) dX4_against_35 ?_
        refine g_if_eq (tgt := 63) hf C dX4_against_38 (by decide) (fun hf => ?_) (fun hf => ?_)
        · refine g_bipush C dX4_against_63 bp_m4 ?_
          exact g_retiW hf hret dX4_against_65
        · refine g_aload_n C 0 dX4_against_41 rfl rfl ?_
          refine g_getC (n := 2) C in_X4_against_X4 (k := 5) lk_X4_against_1 rfl (Nat.le_of_ble_eq_true rfl) rfl (Nat.le_of_ble_eq_true rfl) rfl dX4_against_42 ?_
          refine g_iload_n C 1 dX4_against_45 rfl rfl ?_
          obtain ⟨r9, hc8, hf⟩ := g_bind hf
          refine g_callVi C (mX0_isPaid l0 D0 K0 h σ a1 hc8) gX4_against_X0_isPaid rfl rfl rfl ddX0_isPaid ⟨(Nat.le_of_ble_eq_true rfl), (Nat.le_of_ble_eq_true rfl)⟩ rfl (Nat.le_of_ble_eq_true rfl) rfl rfl rfl (Nat.le_of_ble_eq_true rfl) dX4_against_46 ?_
          refine g_if_ne (tgt := 63) hf C dX4_against_49 (by decide) (fun hf => ?_) (fun hf => ?_)
          · refine g_bipush C dX4_against_63 bp_m4 ?_
            exact g_retiW hf hret dX4_against_65
          · refine g_aload_n C 0 dX4_against_52 rfl rfl ?_
            refine g_getC (n := 2) C in_X4_against_X4 (k := 5) lk_X4_against_1 rfl (Nat.le_of_ble_eq_true rfl) rfl (Nat.le_of_ble_eq_true rfl) rfl dX4_against_53 ?_
            refine g_iload_n C 2 dX4_against_56 rfl rfl ?_
            obtain ⟨r11, hc10, hf⟩ := g_bind hf
            refine g_callVi C (mX0_isPaid l0 D0 K0 h σ a2 hc10) gX4_against_X0_isPaid rfl rfl rfl ddX0_isPaid ⟨(Nat.le_of_ble_eq_true rfl), (Nat.le_of_ble_eq_true rfl)⟩ rfl (Nat.le_of_ble_eq_true rfl) rfl rfl rfl (Nat.le_of_ble_eq_true rfl) dX4_against_57 ?_
            refine g_if_eq (tgt := 66) hf C dX4_against_60 (by decide) (fun hf => ?_) (fun hf => ?_)
            · refine g_aload_n C 0 dX4_against_66 rfl rfl ?_
              refine g_getR C in_X4_against_X4 (k := 8) lk_X4_against_0 rfl (Nat.le_of_ble_eq_true rfl) rfl (Nat.le_of_ble_eq_true rfl) rfl dX4_against_67 ?_
              refine g_getC (n := (pR σ 0 8) + 7) C in_X4_against_X3 (k := 9) lk_X4_against_2 rfl (Nat.le_of_ble_eq_true rfl) (shV hg1) (ltV hg1) rfl dX4_against_70 ?_
              refine g_iload_n C 1 dX4_against_73 rfl rfl ?_
              refine g_iald hf C (shV7 hg1).1 (shV7 hg1).2 dX4_against_74 (fun hf => ?_)
              refine g_aload_n C 0 dX4_against_75 rfl rfl ?_
              refine g_getR C in_X4_against_X4 (k := 8) lk_X4_against_0 rfl (Nat.le_of_ble_eq_true rfl) rfl (Nat.le_of_ble_eq_true rfl) rfl dX4_against_76 ?_
              refine g_getC (n := (pR σ 0 8) + 7) C in_X4_against_X3 (k := 9) lk_X4_against_2 rfl (Nat.le_of_ble_eq_true rfl) (shV hg1) (ltV hg1) rfl dX4_against_79 ?_
              refine g_iload_n C 2 dX4_against_82 rfl rfl ?_
              refine g_iald hf C (shV7 hg1).1 (shV7 hg1).2 dX4_against_83 (fun hf => ?_)
              refine g_isub C dX4_against_84 ?_
              refine g_leti hf (fun x12 hf => ?_)
              refine g_istore_n C [1, 2, 3, 0] dX4_against_85 rfl (Nat.le_of_ble_eq_true rfl) rfl ?_
              refine g_aload_n C 0 dX4_against_86 rfl rfl ?_
              refine g_iload_n C 3 dX4_against_87 rfl rfl ?_
              refine g_join (P := fun j => ∀ (y14 : Int32), j y14 = some (r, u) → G wX h X 121 [(3, .int x12)] [.int y14, .ref (h 0)] σ) hf (fun y14 hf => ?_) (fun j13 hj13 hf => ?_)
              · refine g_putI C in_X4_against_X4 (k := 9) lk_X4_against_3 rfl (Nat.le_of_ble_eq_true rfl) rfl (Nat.le_of_ble_eq_true rfl) tyX4 tyX4_ok nmX4 rfl rfl rfl rfl dX4_against_121 ?_
                refine g_lets hf (fun σ15 hf => ?_)
                refine g_iload_n C 0 dX4_against_124 rfl rfl ?_
                refine g_mabs C lk_X4_against_4 lk_X4_against_5 lk_X4_against_6 lk_X4_against_7 (Nat.le_of_ble_eq_true rfl) (Nat.le_of_ble_eq_true rfl) dX4_against_125 ?_
                refine g_leti hf (fun x16 hf => ?_)
                exact g_retiW hf hret dX4_against_128
              · refine g_if_le (tgt := 103) hf C dX4_against_88 (by decide) (fun hf => ?_) (fun hf => ?_)
                · refine g_iload_n C 3 dX4_against_103 rfl rfl ?_
                  refine g_if_ge (tgt := 119) hf C dX4_against_104 (by decide) (fun hf => ?_) (fun hf => ?_)
                  · refine g_bipush C dX4_against_119 bp_m9 ?_
                    refine g_lv [3] rfl ?_
                    exact hj13 (-9 : Int32) hf
                  · refine g_aload_n C 0 dX4_against_107 rfl rfl ?_
                    refine g_getR C in_X4_against_X4 (k := 8) lk_X4_against_0 rfl (Nat.le_of_ble_eq_true rfl) rfl (Nat.le_of_ble_eq_true rfl) rfl dX4_against_108 ?_
                    refine g_getC (n := (pR σ 0 8) + 5) C in_X4_against_X3 (k := 7) lk_X4_against_8 rfl (Nat.le_of_ble_eq_true rfl) (shV hg1) (ltV hg1) rfl dX4_against_111 ?_
                    refine g_iload_n C 2 dX4_against_114 rfl rfl ?_
                    refine g_iald hf C (shV5 hg1).1 (shV5 hg1).2 dX4_against_115 (fun hf => ?_)
                    refine g_goto (tgt := 121) C dX4_against_116 (by decide) ?_
                    refine g_lv [3] rfl ?_
                    exact hj13 (pI σ ((pR σ 0 8) + 5) (a2).toNatClampNeg) hf
                · refine g_aload_n C 0 dX4_against_91 rfl rfl ?_
                  refine g_getR C in_X4_against_X4 (k := 8) lk_X4_against_0 rfl (Nat.le_of_ble_eq_true rfl) rfl (Nat.le_of_ble_eq_true rfl) rfl dX4_against_92 ?_
                  refine g_getC (n := (pR σ 0 8) + 5) C in_X4_against_X3 (k := 7) lk_X4_against_8 rfl (Nat.le_of_ble_eq_true rfl) (shV hg1) (ltV hg1) rfl dX4_against_95 ?_
                  refine g_iload_n C 1 dX4_against_98 rfl rfl ?_
                  refine g_iald hf C (shV5 hg1).1 (shV5 hg1).2 dX4_against_99 (fun hf => ?_)
                  refine g_goto (tgt := 121) C dX4_against_100 (by decide) ?_
                  refine g_lv [3] rfl ?_
                  exact hj13 (pI σ ((pR σ 0 8) + 5) (a1).toNatClampNeg) hf
            · refine g_bipush C dX4_against_63 bp_m4 ?_
              exact g_retiW hf hret dX4_against_65
      · refine g_iconst C dX4_against_27 ic_m1 ?_
        exact g_retiW hf hret dX4_against_28
/-! X4_family -/
theorem in_X4_family_X3 : ∀ q ∈ u_ws RX3 TX3 11, q ∈ wsX4_family := by decide +kernel
theorem in_X4_family_X4 : ∀ q ∈ u_ws RX4 TX4 13, q ∈ wsX4_family := by decide +kernel
theorem lk_X4_family_0 : Cond.fieldLink RX4 53 "EmptyHouse" "live" "LEmptyHouse$Village;" ∈ wsX4_family := by decide +kernel
theorem lk_X4_family_1 : Cond.fieldLink RX4 124 "EmptyHouse$Village" "people" "I" ∈ wsX4_family := by decide +kernel
theorem lk_X4_family_2 : Cond.fieldLink RX4 57 "EmptyHouse" "told" "I" ∈ wsX4_family := by decide +kernel
theorem ddX4_family : yX4_family.cls = RX4 ∧ yX4_family.cls ≠ "java/lang/invoke/MethodHandle" ∧ yX4_family.cls ≠ "java/lang/invoke/VarHandle" ∧ (parseMethodDescriptor yX4_family.desc).map (fun d => d.parameters.length) = some 1 := by decide +kernel
set_option maxHeartbeats 4000000 in
set_option maxRecDepth 100000 in
theorem lX4_family_23_ok {h : Nat → Nat} {X : Cx} {l0 : Launch} {D0 : va_G} {K0 : Nat → ClassId} (σ : pS) (p1 : Int32) {k55 : Int32 → Option (Int32 × pS)} {r : Int32} {u : pS} (C : Cok wX h X l0 ({ frames := 1, cells := 0, slots := 0, locals := 23 } : Room) D0 K0 cX4_family 4 RX4 wsX4_family) (hret : ∀ (pc : Nat) (lv' : List (Nat × Value)), decode cX4_family pc = .ok (.ireturn, 1) → G wX h X pc lv' [.int r] u) (hk55 : ∀ (z2 : Int32), k55 z2 = some (r, u) → G wX h X 55 [(0, .ref (h 0)), (2, .int z2)] [] σ) : ∀ (F : Nat) (v2 : Int32) (v3 : Int32), lX4_family_23 σ p1 k55 F v2 v3 = some (r, u) → G wX h X 23 [(0, .ref (h 0)), (1, .int p1), (2, .int v2), (3, .int v3)] [] σ := by
  intro F
  induction F with
  | zero => intro v2 v3 hf; exact absurd hf (by simp [lX4_family_23])
  | succ F ih =>
    intro v2 v3 hf
    rw [lX4_family_23.eq_2] at hf
    refine g_iload_n C 3 dX4_family_23 rfl rfl ?_
    refine g_bipush C dX4_family_24 bp_12 ?_
    refine g_icmp_ge (tgt := 55) hf C dX4_family_26 (by decide) (fun hf => ?_) (fun hf => ?_)
    · refine g_lv [0, 2] rfl ?_
      exact hk55 v2 hf
    · refine g_aload_n C 0 dX4_family_29 rfl rfl ?_
      refine g_getR C in_X4_family_X4 (k := 8) lk_X4_family_0 rfl (Nat.le_of_ble_eq_true rfl) rfl (Nat.le_of_ble_eq_true rfl) rfl dX4_family_30 ?_
      refine g_iload_n C 3 dX4_family_33 rfl rfl ?_
      obtain ⟨hg2, hf⟩ := g_guard hf
      obtain ⟨r4, hc3, hf⟩ := g_bind hf
      refine g_callVi C (mX3_peopleOut l0 D0 K0 h σ (pR σ 0 8) v3 hc3) gX4_family_X3_peopleOut rfl rfl rfl ddX3_peopleOut ⟨(Nat.le_of_ble_eq_true rfl), (Nat.le_of_ble_eq_true rfl)⟩ (shV hg2) (ltV hg2) rfl rfl rfl (Nat.le_of_ble_eq_true rfl) dX4_family_34 ?_
      refine g_iload_n C 1 dX4_family_37 rfl rfl ?_
      refine g_iand C dX4_family_38 ?_
      refine g_iload_n C 1 dX4_family_39 rfl rfl ?_
      refine g_icmp_ne (tgt := 49) hf C dX4_family_40 (by decide) (fun hf => ?_) (fun hf => ?_)
      · refine g_iinc C 3 [1, 2, 3, 0] dX4_family_49 rfl ic_1 (Nat.le_of_ble_eq_true rfl) rfl ?_
        refine g_goto (tgt := 23) C dX4_family_52 (by decide) ?_
        exact ih v2 (v3 + (1 : Int32)) hf
      · refine g_iload_n C 2 dX4_family_43 rfl rfl ?_
        refine g_iconst C dX4_family_44 ic_1 ?_
        refine g_iload_n C 3 dX4_family_45 rfl rfl ?_
        refine g_ishl C dX4_family_46 ?_
        refine g_ior C dX4_family_47 ?_
        refine g_leti hf (fun x5 hf => ?_)
        refine g_istore_n C [1, 2, 0, 3] dX4_family_48 rfl (Nat.le_of_ble_eq_true rfl) rfl ?_
        refine g_iinc C 3 [1, 2, 3, 0] dX4_family_49 rfl ic_1 (Nat.le_of_ble_eq_true rfl) rfl ?_
        refine g_goto (tgt := 23) C dX4_family_52 (by decide) ?_
        exact ih x5 (v3 + (1 : Int32)) hf
set_option maxHeartbeats 4000000 in
set_option maxRecDepth 100000 in
theorem mX4_family (l0 : Launch) (D0 : va_G) (K0 : Nat → ClassId) (h : Nat → Nat) (σ : pS) (a1 : Int32) {r : Int32} {u : pS} (hf : fX4_family σ a1 = some (r, u)) : Met l0 yX4_family wsX4_family ({ frames := 1, cells := 0, slots := 0, locals := 23 } : Room) (va_Pc [.ref (h 0), .int a1] (pIn wX D0 K0 h σ)) (va_Qi (fun r' u' => r' = r ∧ u' = u) (pOut wX D0 K0 h) (pA wX h)) 0 0 (pA wX h) := by
  refine p_metI (lv := [(0, .ref (h 0)), (1, .int a1)]) (by decide +kernel) rfl rfl (Nat.le_of_ble_eq_true rfl) rfl (fun X C hret => ?_)
  unfold fX4_family at hf
  refine g_iload_n C 1 dX4_family_0 rfl rfl ?_
  refine g_if_le (tgt := 17) hf C dX4_family_1 (by decide) (fun hf => ?_) (fun hf => ?_)
  · refine g_iconst C dX4_family_17 ic_m1 ?_
    exact g_retiW hf hret dX4_family_18
  · refine g_iload_n C 1 dX4_family_4 rfl rfl ?_
    refine g_iconst C dX4_family_5 ic_1 ?_
    refine g_aload_n C 0 dX4_family_6 rfl rfl ?_
    refine g_getR C in_X4_family_X4 (k := 8) lk_X4_family_0 rfl (Nat.le_of_ble_eq_true rfl) rfl (Nat.le_of_ble_eq_true rfl) rfl dX4_family_7 ?_
    obtain ⟨hg1, hf⟩ := g_guard hf
    refine g_getI C in_X4_family_X3 (k := 0) lk_X4_family_1 rfl (Nat.le_of_ble_eq_true rfl) (shV hg1) (ltV hg1) rfl dX4_family_10 ?_
    refine g_ishl C dX4_family_13 ?_
    refine g_icmp_lt (tgt := 19) hf C dX4_family_14 (by decide) (fun hf => ?_) (fun hf => ?_)
    · refine g_iconst C dX4_family_19 ic_0 ?_
      refine g_istore_n C [1, 2, 0] dX4_family_20 rfl (Nat.le_of_ble_eq_true rfl) rfl ?_
      refine g_iconst C dX4_family_21 ic_0 ?_
      refine g_istore_n C [1, 2, 3, 0] dX4_family_22 rfl (Nat.le_of_ble_eq_true rfl) rfl ?_
      refine lX4_family_23_ok σ a1 C hret (fun y6 hf => ?_) FU (0 : Int32) (0 : Int32) hf
      refine g_aload_n C 0 dX4_family_55 rfl rfl ?_
      refine g_iload_n C 1 dX4_family_56 rfl rfl ?_
      obtain ⟨r8, hc7, hf⟩ := g_bind hf
      refine g_callSi C (mJ6_bitCount_0f7a4 l0 D0 K0 h σ y6 hc7) gX4_family_J6_bitCount_0f7a4 rfl rfl rfl ddJ6_bitCount_0f7a4 ⟨(Nat.le_of_ble_eq_true rfl), (Nat.le_of_ble_eq_true rfl)⟩ rfl rfl (Nat.le_of_ble_eq_true rfl) dX4_family_57 ?_
      refine g_putI C in_X4_family_X4 (k := 9) lk_X4_family_2 rfl (Nat.le_of_ble_eq_true rfl) rfl (Nat.le_of_ble_eq_true rfl) tyX4 tyX4_ok nmX4 rfl rfl rfl rfl dX4_family_60 ?_
      refine g_lets hf (fun σ9 hf => ?_)
      refine g_iload_n C 1 dX4_family_63 rfl rfl ?_
      exact g_retiW hf hret dX4_family_64
    · refine g_iconst C dX4_family_17 ic_m1 ?_
      exact g_retiW hf hret dX4_family_18
/-! X4_isTakenBy -/
theorem in_X4_isTakenBy_X0 : ∀ q ∈ u_ws RX0 TX0 3, q ∈ wsX4_isTakenBy := by decide +kernel
theorem in_X4_isTakenBy_X3 : ∀ q ∈ u_ws RX3 TX3 11, q ∈ wsX4_isTakenBy := by decide +kernel
theorem in_X4_isTakenBy_X4 : ∀ q ∈ u_ws RX4 TX4 13, q ∈ wsX4_isTakenBy := by decide +kernel
theorem lk_X4_isTakenBy_0 : Cond.fieldLink RX4 53 "EmptyHouse" "live" "LEmptyHouse$Village;" ∈ wsX4_isTakenBy := by decide +kernel
theorem lk_X4_isTakenBy_1 : Cond.fieldLink RX4 184 "EmptyHouse$Village" "debts" "I" ∈ wsX4_isTakenBy := by decide +kernel
theorem lk_X4_isTakenBy_2 : Cond.fieldLink RX4 36 "EmptyHouse" "books" "LEmptyHouse$Books;" ∈ wsX4_isTakenBy := by decide +kernel
theorem lk_X4_isTakenBy_3 : Cond.fieldLink RX4 280 "EmptyHouse$Books" "paidIn" "[I" ∈ wsX4_isTakenBy := by decide +kernel
theorem ddX4_isTakenBy : yX4_isTakenBy.cls = RX4 ∧ yX4_isTakenBy.cls ≠ "java/lang/invoke/MethodHandle" ∧ yX4_isTakenBy.cls ≠ "java/lang/invoke/VarHandle" ∧ (parseMethodDescriptor yX4_isTakenBy.desc).map (fun d => d.parameters.length) = some 2 := by decide +kernel
set_option maxHeartbeats 4000000 in
set_option maxRecDepth 100000 in
theorem lX4_isTakenBy_2_ok {h : Nat → Nat} {X : Cx} {l0 : Launch} {D0 : va_G} {K0 : Nat → ClassId} (σ : pS) (p1 : Int32) (p2 : Int32) {k46 : Option Int32} {r : Int32} (C : Cok wX h X l0 ({ frames := 1, cells := 0, slots := 0, locals := 22 } : Room) D0 K0 cX4_isTakenBy 4 RX4 wsX4_isTakenBy) (hret : ∀ (pc : Nat) (lv' : List (Nat × Value)), vp_nar .boolean r = r → decode cX4_isTakenBy pc = .ok (.ireturn, 1) → G wX h X pc lv' [.int r] σ) (hk46 :  k46 = some r → G wX h X 46 [] [] σ) : ∀ (F : Nat) (v3 : Int32), lX4_isTakenBy_2 σ p1 p2 k46 F v3 = some r → G wX h X 2 [(0, .ref (h 0)), (1, .int p1), (2, .int p2), (3, .int v3)] [] σ := by
  intro F
  induction F with
  | zero => intro v3 hf; exact absurd hf (by simp [lX4_isTakenBy_2])
  | succ F ih =>
    intro v3 hf
    rw [lX4_isTakenBy_2.eq_2] at hf
    refine g_iload_n C 3 dX4_isTakenBy_2 rfl rfl ?_
    refine g_aload_n C 0 dX4_isTakenBy_3 rfl rfl ?_
    refine g_getR C in_X4_isTakenBy_X4 (k := 8) lk_X4_isTakenBy_0 rfl (Nat.le_of_ble_eq_true rfl) rfl (Nat.le_of_ble_eq_true rfl) rfl dX4_isTakenBy_4 ?_
    obtain ⟨hg1, hf⟩ := g_guard hf
    refine g_getI C in_X4_isTakenBy_X3 (k := 1) lk_X4_isTakenBy_1 rfl (Nat.le_of_ble_eq_true rfl) (shV hg1) (ltV hg1) rfl dX4_isTakenBy_7 ?_
    refine g_icmp_ge (tgt := 46) hf C dX4_isTakenBy_10 (by decide) (fun hf => ?_) (fun hf => ?_)
    · refine g_lv [] rfl ?_
      exact hk46 hf
    · refine g_aload_n C 0 dX4_isTakenBy_13 rfl rfl ?_
      refine g_getC (n := 2) C in_X4_isTakenBy_X4 (k := 5) lk_X4_isTakenBy_2 rfl (Nat.le_of_ble_eq_true rfl) rfl (Nat.le_of_ble_eq_true rfl) rfl dX4_isTakenBy_14 ?_
      refine g_getC (n := 9) C in_X4_isTakenBy_X0 (k := 0) lk_X4_isTakenBy_3 rfl (Nat.le_of_ble_eq_true rfl) rfl (Nat.le_of_ble_eq_true rfl) rfl dX4_isTakenBy_17 ?_
      refine g_iload_n C 3 dX4_isTakenBy_20 rfl rfl ?_
      refine g_iald hf C rfl (Nat.le_of_ble_eq_true rfl) dX4_isTakenBy_21 (fun hf => ?_)
      refine g_iload_n C 2 dX4_isTakenBy_22 rfl rfl ?_
      refine g_icmp_ne (tgt := 40) hf C dX4_isTakenBy_23 (by decide) (fun hf => ?_) (fun hf => ?_)
      · refine g_iinc C 3 [1, 2, 3, 0] dX4_isTakenBy_40 rfl ic_1 (Nat.le_of_ble_eq_true rfl) rfl ?_
        refine g_goto (tgt := 2) C dX4_isTakenBy_43 (by decide) ?_
        exact ih (v3 + (1 : Int32)) hf
      · refine g_aload_n C 0 dX4_isTakenBy_26 rfl rfl ?_
        refine g_getR C in_X4_isTakenBy_X4 (k := 8) lk_X4_isTakenBy_0 rfl (Nat.le_of_ble_eq_true rfl) rfl (Nat.le_of_ble_eq_true rfl) rfl dX4_isTakenBy_27 ?_
        refine g_iload_n C 1 dX4_isTakenBy_30 rfl rfl ?_
        refine g_iload_n C 3 dX4_isTakenBy_31 rfl rfl ?_
        obtain ⟨r3, hc2, hf⟩ := g_bind hf
        refine g_callVi C (mX3_clash l0 D0 K0 h σ (pR σ 0 8) p1 v3 hc2) gX4_isTakenBy_X3_clash rfl rfl rfl ddX3_clash ⟨(Nat.le_of_ble_eq_true rfl), (Nat.le_of_ble_eq_true rfl)⟩ (shV hg1) (ltV hg1) rfl rfl rfl (Nat.le_of_ble_eq_true rfl) dX4_isTakenBy_32 ?_
        refine g_if_eq (tgt := 40) hf C dX4_isTakenBy_35 (by decide) (fun hf => ?_) (fun hf => ?_)
        · refine g_iinc C 3 [1, 2, 3, 0] dX4_isTakenBy_40 rfl ic_1 (Nat.le_of_ble_eq_true rfl) rfl ?_
          refine g_goto (tgt := 2) C dX4_isTakenBy_43 (by decide) ?_
          exact ih (v3 + (1 : Int32)) hf
        · refine g_iconst C dX4_isTakenBy_38 ic_1 ?_
          exact g_retz hf (by decide) hret dX4_isTakenBy_39
set_option maxHeartbeats 4000000 in
set_option maxRecDepth 100000 in
theorem mX4_isTakenBy (l0 : Launch) (D0 : va_G) (K0 : Nat → ClassId) (h : Nat → Nat) (σ : pS) (a1 : Int32) (a2 : Int32) {r : Int32} (hf : fX4_isTakenBy σ a1 a2 = some r) : Met l0 yX4_isTakenBy wsX4_isTakenBy ({ frames := 1, cells := 0, slots := 0, locals := 22 } : Room) (va_Pc [.ref (h 0), .int a1, .int a2] (pIn wX D0 K0 h σ)) (va_Qi (fun r' u' => r' = r ∧ u' = σ) (pOut wX D0 K0 h) (pA wX h)) 0 0 (pA wX h) := by
  refine p_metZ (lv := [(0, .ref (h 0)), (1, .int a1), (2, .int a2)]) (by decide +kernel) rfl rfl (Nat.le_of_ble_eq_true rfl) rfl (fun X C hret => ?_)
  unfold fX4_isTakenBy at hf
  refine g_iconst C dX4_isTakenBy_0 ic_0 ?_
  refine g_istore_n C [1, 2, 3, 0] dX4_isTakenBy_1 rfl (Nat.le_of_ble_eq_true rfl) rfl ?_
  refine lX4_isTakenBy_2_ok σ a1 a2 C hret (fun hf => ?_) FU (0 : Int32) hf
  refine g_iconst C dX4_isTakenBy_46 ic_0 ?_
  exact g_retz hf (by decide) hret dX4_isTakenBy_47
/-! X4_pay -/
theorem in_X4_pay_X0 : ∀ q ∈ u_ws RX0 TX0 3, q ∈ wsX4_pay := by decide +kernel
theorem in_X4_pay_X4 : ∀ q ∈ u_ws RX4 TX4 13, q ∈ wsX4_pay := by decide +kernel
theorem lk_X4_pay_0 : Cond.fieldLink RX4 53 "EmptyHouse" "live" "LEmptyHouse$Village;" ∈ wsX4_pay := by decide +kernel
theorem lk_X4_pay_1 : Cond.fieldLink RX4 36 "EmptyHouse" "books" "LEmptyHouse$Books;" ∈ wsX4_pay := by decide +kernel
theorem lk_X4_pay_2 : Cond.fieldLink RX4 280 "EmptyHouse$Books" "paidIn" "[I" ∈ wsX4_pay := by decide +kernel
theorem ddX4_pay : yX4_pay.cls = RX4 ∧ yX4_pay.cls ≠ "java/lang/invoke/MethodHandle" ∧ yX4_pay.cls ≠ "java/lang/invoke/VarHandle" ∧ (parseMethodDescriptor yX4_pay.desc).map (fun d => d.parameters.length) = some 2 := by decide +kernel
set_option maxHeartbeats 4000000 in
set_option maxRecDepth 100000 in
theorem mX4_pay (l0 : Launch) (D0 : va_G) (K0 : Nat → ClassId) (h : Nat → Nat) (σ : pS) (a1 : Int32) (a2 : Int32) {r : Int32} {u : pS} (hf : fX4_pay σ a1 a2 = some (r, u)) : Met l0 yX4_pay wsX4_pay ({ frames := 4, cells := 0, slots := 0, locals := 90 } : Room) (va_Pc [.ref (h 0), .int a1, .int a2] (pIn wX D0 K0 h σ)) (va_Qi (fun r' u' => r' = r ∧ u' = u) (pOut wX D0 K0 h) (pA wX h)) 0 0 (pA wX h) := by
  refine p_metI (lv := [(0, .ref (h 0)), (1, .int a1), (2, .int a2)]) (by decide +kernel) rfl rfl (Nat.le_of_ble_eq_true rfl) rfl (fun X C hret => ?_)
  unfold fX4_pay at hf
  refine g_aload_n C 0 dX4_pay_0 rfl rfl ?_
  refine g_getR C in_X4_pay_X4 (k := 8) lk_X4_pay_0 rfl (Nat.le_of_ble_eq_true rfl) rfl (Nat.le_of_ble_eq_true rfl) rfl dX4_pay_1 ?_
  refine g_iload_n C 1 dX4_pay_4 rfl rfl ?_
  obtain ⟨hg1, hf⟩ := g_guard hf
  obtain ⟨r3, hc2, hf⟩ := g_bind hf
  refine g_callVi C (mX3_isDebt l0 D0 K0 h σ (pR σ 0 8) a1 hc2) gX4_pay_X3_isDebt rfl rfl rfl ddX3_isDebt ⟨(Nat.le_of_ble_eq_true rfl), (Nat.le_of_ble_eq_true rfl)⟩ (shV hg1) (ltV hg1) rfl rfl rfl (Nat.le_of_ble_eq_true rfl) dX4_pay_5 ?_
  refine g_if_eq (tgt := 18) hf C dX4_pay_8 (by decide) (fun hf => ?_) (fun hf => ?_)
  · refine g_iconst C dX4_pay_18 ic_m1 ?_
    exact g_retiW hf hret dX4_pay_19
  · refine g_iload_n C 2 dX4_pay_11 rfl rfl ?_
    obtain ⟨r5, hc4, hf⟩ := g_bind hf
    refine g_callSi C (mX4_isHour l0 D0 K0 h σ a2 hc4) gX4_pay_X4_isHour rfl rfl rfl ddX4_isHour ⟨(Nat.le_of_ble_eq_true rfl), (Nat.le_of_ble_eq_true rfl)⟩ rfl rfl (Nat.le_of_ble_eq_true rfl) dX4_pay_12 ?_
    refine g_if_ne (tgt := 20) hf C dX4_pay_15 (by decide) (fun hf => ?_) (fun hf => ?_)
    · refine g_aload_n C 0 dX4_pay_20 rfl rfl ?_
      refine g_getC (n := 2) C in_X4_pay_X4 (k := 5) lk_X4_pay_1 rfl (Nat.le_of_ble_eq_true rfl) rfl (Nat.le_of_ble_eq_true rfl) rfl dX4_pay_21 ?_
      refine g_iload_n C 1 dX4_pay_24 rfl rfl ?_
      obtain ⟨r7, hc6, hf⟩ := g_bind hf
      refine g_callVi C (mX0_isPaid l0 D0 K0 h σ a1 hc6) gX4_pay_X0_isPaid rfl rfl rfl ddX0_isPaid ⟨(Nat.le_of_ble_eq_true rfl), (Nat.le_of_ble_eq_true rfl)⟩ rfl (Nat.le_of_ble_eq_true rfl) rfl rfl rfl (Nat.le_of_ble_eq_true rfl) dX4_pay_25 ?_
      refine g_if_ne (tgt := 60) hf C dX4_pay_28 (by decide) (fun hf => ?_) (fun hf => ?_)
      · refine g_bipush C dX4_pay_60 bp_m4 ?_
        exact g_retiW hf hret dX4_pay_62
      · refine g_aload_n C 0 dX4_pay_31 rfl rfl ?_
        refine g_getR C in_X4_pay_X4 (k := 8) lk_X4_pay_0 rfl (Nat.le_of_ble_eq_true rfl) rfl (Nat.le_of_ble_eq_true rfl) rfl dX4_pay_32 ?_
        refine g_iload_n C 1 dX4_pay_35 rfl rfl ?_
        refine g_iload_n C 2 dX4_pay_36 rfl rfl ?_
        refine g_aload_n C 0 dX4_pay_37 rfl rfl ?_
        refine g_getR C in_X4_pay_X4 (k := 8) lk_X4_pay_0 rfl (Nat.le_of_ble_eq_true rfl) rfl (Nat.le_of_ble_eq_true rfl) rfl dX4_pay_38 ?_
        refine g_iload_n C 2 dX4_pay_41 rfl rfl ?_
        obtain ⟨r9, hc8, hf⟩ := g_bind hf
        refine g_callVi C (mX3_peopleOut l0 D0 K0 h σ (pR σ 0 8) a2 hc8) gX4_pay_X3_peopleOut rfl rfl rfl ddX3_peopleOut ⟨(Nat.le_of_ble_eq_true rfl), (Nat.le_of_ble_eq_true rfl)⟩ (shV hg1) (ltV hg1) rfl rfl rfl (Nat.le_of_ble_eq_true rfl) dX4_pay_42 ?_
        obtain ⟨r11, hc10, hf⟩ := g_bind hf
        refine g_callVi C (mX3_isPayable l0 D0 K0 h σ (pR σ 0 8) a1 a2 r9 hc10) gX4_pay_X3_isPayable rfl rfl rfl ddX3_isPayable ⟨(Nat.le_of_ble_eq_true rfl), (Nat.le_of_ble_eq_true rfl)⟩ (shV hg1) (ltV hg1) rfl rfl rfl (Nat.le_of_ble_eq_true rfl) dX4_pay_45 ?_
        refine g_if_eq (tgt := 60) hf C dX4_pay_48 (by decide) (fun hf => ?_) (fun hf => ?_)
        · refine g_bipush C dX4_pay_60 bp_m4 ?_
          exact g_retiW hf hret dX4_pay_62
        · refine g_aload_n C 0 dX4_pay_51 rfl rfl ?_
          refine g_iload_n C 1 dX4_pay_52 rfl rfl ?_
          refine g_iload_n C 2 dX4_pay_53 rfl rfl ?_
          obtain ⟨r13, hc12, hf⟩ := g_bind hf
          refine g_callVi C (mX4_isTakenBy l0 D0 K0 h σ a1 a2 hc12) gX4_pay_X4_isTakenBy rfl rfl rfl ddX4_isTakenBy ⟨(Nat.le_of_ble_eq_true rfl), (Nat.le_of_ble_eq_true rfl)⟩ rfl (Nat.le_of_ble_eq_true rfl) rfl rfl rfl (Nat.le_of_ble_eq_true rfl) dX4_pay_54 ?_
          refine g_if_eq (tgt := 63) hf C dX4_pay_57 (by decide) (fun hf => ?_) (fun hf => ?_)
          · refine g_aload_n C 0 dX4_pay_63 rfl rfl ?_
            refine g_getC (n := 2) C in_X4_pay_X4 (k := 5) lk_X4_pay_1 rfl (Nat.le_of_ble_eq_true rfl) rfl (Nat.le_of_ble_eq_true rfl) rfl dX4_pay_64 ?_
            refine g_getC (n := 9) C in_X4_pay_X0 (k := 0) lk_X4_pay_2 rfl (Nat.le_of_ble_eq_true rfl) rfl (Nat.le_of_ble_eq_true rfl) rfl dX4_pay_67 ?_
            refine g_iload_n C 1 dX4_pay_70 rfl rfl ?_
            refine g_iload_n C 2 dX4_pay_71 rfl rfl ?_
            refine g_iast hf C rfl (Nat.le_of_ble_eq_true rfl) dX4_pay_72 (fun hf => ?_)
            refine g_lets hf (fun σ14 hf => ?_)
            refine g_aload_n C 0 dX4_pay_73 rfl rfl ?_
            refine g_getR C in_X4_pay_X4 (k := 8) lk_X4_pay_0 rfl (Nat.le_of_ble_eq_true rfl) rfl (Nat.le_of_ble_eq_true rfl) rfl dX4_pay_74 ?_
            refine g_iload_n C 1 dX4_pay_77 rfl rfl ?_
            refine g_iload_n C 2 dX4_pay_78 rfl rfl ?_
            obtain ⟨hg15, hf⟩ := g_guard hf
            obtain ⟨r17, hc16, hf⟩ := g_bind hf
            refine g_callVi C (mX3_cost l0 D0 K0 h σ14 (pR σ14 0 8) a1 a2 hc16) gX4_pay_X3_cost rfl rfl rfl ddX3_cost ⟨(Nat.le_of_ble_eq_true rfl), (Nat.le_of_ble_eq_true rfl)⟩ (shV hg15) (ltV hg15) rfl rfl rfl (Nat.le_of_ble_eq_true rfl) dX4_pay_79 ?_
            exact g_retiW hf hret dX4_pay_82
          · refine g_bipush C dX4_pay_60 bp_m4 ?_
            exact g_retiW hf hret dX4_pay_62
    · refine g_iconst C dX4_pay_18 ic_m1 ?_
      exact g_retiW hf hret dX4_pay_19
/-! X4_unpay -/
theorem in_X4_unpay_X0 : ∀ q ∈ u_ws RX0 TX0 3, q ∈ wsX4_unpay := by decide +kernel
theorem in_X4_unpay_X4 : ∀ q ∈ u_ws RX4 TX4 13, q ∈ wsX4_unpay := by decide +kernel
theorem lk_X4_unpay_0 : Cond.fieldLink RX4 53 "EmptyHouse" "live" "LEmptyHouse$Village;" ∈ wsX4_unpay := by decide +kernel
theorem lk_X4_unpay_1 : Cond.fieldLink RX4 36 "EmptyHouse" "books" "LEmptyHouse$Books;" ∈ wsX4_unpay := by decide +kernel
theorem lk_X4_unpay_2 : Cond.fieldLink RX4 280 "EmptyHouse$Books" "paidIn" "[I" ∈ wsX4_unpay := by decide +kernel
theorem ddX4_unpay : yX4_unpay.cls = RX4 ∧ yX4_unpay.cls ≠ "java/lang/invoke/MethodHandle" ∧ yX4_unpay.cls ≠ "java/lang/invoke/VarHandle" ∧ (parseMethodDescriptor yX4_unpay.desc).map (fun d => d.parameters.length) = some 1 := by decide +kernel
set_option maxHeartbeats 4000000 in
set_option maxRecDepth 100000 in
theorem mX4_unpay (l0 : Launch) (D0 : va_G) (K0 : Nat → ClassId) (h : Nat → Nat) (σ : pS) (a1 : Int32) {r : Int32} {u : pS} (hf : fX4_unpay σ a1 = some (r, u)) : Met l0 yX4_unpay wsX4_unpay ({ frames := 1, cells := 0, slots := 0, locals := 21 } : Room) (va_Pc [.ref (h 0), .int a1] (pIn wX D0 K0 h σ)) (va_Qi (fun r' u' => r' = r ∧ u' = u) (pOut wX D0 K0 h) (pA wX h)) 0 0 (pA wX h) := by
  refine p_metI (lv := [(0, .ref (h 0)), (1, .int a1)]) (by decide +kernel) rfl rfl (Nat.le_of_ble_eq_true rfl) rfl (fun X C hret => ?_)
  unfold fX4_unpay at hf
  refine g_aload_n C 0 dX4_unpay_0 rfl rfl ?_
  refine g_getR C in_X4_unpay_X4 (k := 8) lk_X4_unpay_0 rfl (Nat.le_of_ble_eq_true rfl) rfl (Nat.le_of_ble_eq_true rfl) rfl dX4_unpay_1 ?_
  refine g_iload_n C 1 dX4_unpay_4 rfl rfl ?_
  obtain ⟨hg1, hf⟩ := g_guard hf
  obtain ⟨r3, hc2, hf⟩ := g_bind hf
  refine g_callVi C (mX3_isDebt l0 D0 K0 h σ (pR σ 0 8) a1 hc2) gX4_unpay_X3_isDebt rfl rfl rfl ddX3_isDebt ⟨(Nat.le_of_ble_eq_true rfl), (Nat.le_of_ble_eq_true rfl)⟩ (shV hg1) (ltV hg1) rfl rfl rfl (Nat.le_of_ble_eq_true rfl) dX4_unpay_5 ?_
  refine g_if_ne (tgt := 13) hf C dX4_unpay_8 (by decide) (fun hf => ?_) (fun hf => ?_)
  · refine g_aload_n C 0 dX4_unpay_13 rfl rfl ?_
    refine g_getC (n := 2) C in_X4_unpay_X4 (k := 5) lk_X4_unpay_1 rfl (Nat.le_of_ble_eq_true rfl) rfl (Nat.le_of_ble_eq_true rfl) rfl dX4_unpay_14 ?_
    refine g_iload_n C 1 dX4_unpay_17 rfl rfl ?_
    obtain ⟨r5, hc4, hf⟩ := g_bind hf
    refine g_callVi C (mX0_isPaid l0 D0 K0 h σ a1 hc4) gX4_unpay_X0_isPaid rfl rfl rfl ddX0_isPaid ⟨(Nat.le_of_ble_eq_true rfl), (Nat.le_of_ble_eq_true rfl)⟩ rfl (Nat.le_of_ble_eq_true rfl) rfl rfl rfl (Nat.le_of_ble_eq_true rfl) dX4_unpay_18 ?_
    refine g_if_ne (tgt := 27) hf C dX4_unpay_21 (by decide) (fun hf => ?_) (fun hf => ?_)
    · refine g_aload_n C 0 dX4_unpay_27 rfl rfl ?_
      refine g_getC (n := 2) C in_X4_unpay_X4 (k := 5) lk_X4_unpay_1 rfl (Nat.le_of_ble_eq_true rfl) rfl (Nat.le_of_ble_eq_true rfl) rfl dX4_unpay_28 ?_
      refine g_getC (n := 9) C in_X4_unpay_X0 (k := 0) lk_X4_unpay_2 rfl (Nat.le_of_ble_eq_true rfl) rfl (Nat.le_of_ble_eq_true rfl) rfl dX4_unpay_31 ?_
      refine g_iload_n C 1 dX4_unpay_34 rfl rfl ?_
      refine g_iald hf C rfl (Nat.le_of_ble_eq_true rfl) dX4_unpay_35 (fun hf => ?_)
      refine g_leti hf (fun x6 hf => ?_)
      refine g_istore_n C [1, 2, 0] dX4_unpay_36 rfl (Nat.le_of_ble_eq_true rfl) rfl ?_
      refine g_aload_n C 0 dX4_unpay_37 rfl rfl ?_
      refine g_getC (n := 2) C in_X4_unpay_X4 (k := 5) lk_X4_unpay_1 rfl (Nat.le_of_ble_eq_true rfl) rfl (Nat.le_of_ble_eq_true rfl) rfl dX4_unpay_38 ?_
      refine g_getC (n := 9) C in_X4_unpay_X0 (k := 0) lk_X4_unpay_2 rfl (Nat.le_of_ble_eq_true rfl) rfl (Nat.le_of_ble_eq_true rfl) rfl dX4_unpay_41 ?_
      refine g_iload_n C 1 dX4_unpay_44 rfl rfl ?_
      refine g_bipush C dX4_unpay_45 bp_m9 ?_
      refine g_iast hf C rfl (Nat.le_of_ble_eq_true rfl) dX4_unpay_47 (fun hf => ?_)
      refine g_lets hf (fun σ7 hf => ?_)
      refine g_iload_n C 2 dX4_unpay_48 rfl rfl ?_
      exact g_retiW hf hret dX4_unpay_49
    · refine g_bipush C dX4_unpay_24 bp_m4 ?_
      exact g_retiW hf hret dX4_unpay_26
  · refine g_iconst C dX4_unpay_11 ic_m1 ?_
    exact g_retiW hf hret dX4_unpay_12
/-! X4_paid -/
theorem in_X4_paid_X0 : ∀ q ∈ u_ws RX0 TX0 3, q ∈ wsX4_paid := by decide +kernel
theorem in_X4_paid_X3 : ∀ q ∈ u_ws RX3 TX3 11, q ∈ wsX4_paid := by decide +kernel
theorem in_X4_paid_X4 : ∀ q ∈ u_ws RX4 TX4 13, q ∈ wsX4_paid := by decide +kernel
theorem lk_X4_paid_0 : Cond.fieldLink RX4 53 "EmptyHouse" "live" "LEmptyHouse$Village;" ∈ wsX4_paid := by decide +kernel
theorem lk_X4_paid_1 : Cond.fieldLink RX4 184 "EmptyHouse$Village" "debts" "I" ∈ wsX4_paid := by decide +kernel
theorem lk_X4_paid_2 : Cond.fieldLink RX4 36 "EmptyHouse" "books" "LEmptyHouse$Books;" ∈ wsX4_paid := by decide +kernel
theorem lk_X4_paid_3 : Cond.fieldLink RX4 280 "EmptyHouse$Books" "paidIn" "[I" ∈ wsX4_paid := by decide +kernel
theorem lk_X4_paid_4 : Cond.fieldLink RX4 57 "EmptyHouse" "told" "I" ∈ wsX4_paid := by decide +kernel
theorem ddX4_paid : yX4_paid.cls = RX4 ∧ yX4_paid.cls ≠ "java/lang/invoke/MethodHandle" ∧ yX4_paid.cls ≠ "java/lang/invoke/VarHandle" ∧ (parseMethodDescriptor yX4_paid.desc).map (fun d => d.parameters.length) = some 0 := by decide +kernel
set_option maxHeartbeats 4000000 in
set_option maxRecDepth 100000 in
theorem lX4_paid_6_ok {h : Nat → Nat} {X : Cx} {l0 : Launch} {D0 : va_G} {K0 : Nat → ClassId} (σ : pS) {k66 : Int32 → Int32 → Option (Int32 × pS)} {r : Int32} {u : pS} (C : Cok wX h X l0 ({ frames := 1, cells := 0, slots := 0, locals := 22 } : Room) D0 K0 cX4_paid 5 RX4 wsX4_paid) (hret : ∀ (pc : Nat) (lv' : List (Nat × Value)), decode cX4_paid pc = .ok (.ireturn, 1) → G wX h X pc lv' [.int r] u) (hk66 : ∀ (z1 : Int32) (z2 : Int32), k66 z1 z2 = some (r, u) → G wX h X 66 [(0, .ref (h 0)), (1, .int z1), (2, .int z2)] [] σ) : ∀ (F : Nat) (v1 : Int32) (v2 : Int32) (v3 : Int32), lX4_paid_6 σ k66 F v1 v2 v3 = some (r, u) → G wX h X 6 [(0, .ref (h 0)), (1, .int v1), (2, .int v2), (3, .int v3)] [] σ := by
  intro F
  induction F with
  | zero => intro v1 v2 v3 hf; exact absurd hf (by simp [lX4_paid_6])
  | succ F ih =>
    intro v1 v2 v3 hf
    rw [lX4_paid_6.eq_2] at hf
    refine g_iload_n C 3 dX4_paid_6 rfl rfl ?_
    refine g_aload_n C 0 dX4_paid_7 rfl rfl ?_
    refine g_getR C in_X4_paid_X4 (k := 8) lk_X4_paid_0 rfl (Nat.le_of_ble_eq_true rfl) rfl (Nat.le_of_ble_eq_true rfl) rfl dX4_paid_8 ?_
    obtain ⟨hg1, hf⟩ := g_guard hf
    refine g_getI C in_X4_paid_X3 (k := 1) lk_X4_paid_1 rfl (Nat.le_of_ble_eq_true rfl) (shV hg1) (ltV hg1) rfl dX4_paid_11 ?_
    refine g_icmp_ge (tgt := 66) hf C dX4_paid_14 (by decide) (fun hf => ?_) (fun hf => ?_)
    · refine g_lv [0, 1, 2] rfl ?_
      exact hk66 v1 v2 hf
    · refine g_aload_n C 0 dX4_paid_17 rfl rfl ?_
      refine g_getR C in_X4_paid_X4 (k := 8) lk_X4_paid_0 rfl (Nat.le_of_ble_eq_true rfl) rfl (Nat.le_of_ble_eq_true rfl) rfl dX4_paid_18 ?_
      refine g_iload_n C 3 dX4_paid_21 rfl rfl ?_
      refine g_aload_n C 0 dX4_paid_22 rfl rfl ?_
      refine g_getC (n := 2) C in_X4_paid_X4 (k := 5) lk_X4_paid_2 rfl (Nat.le_of_ble_eq_true rfl) rfl (Nat.le_of_ble_eq_true rfl) rfl dX4_paid_23 ?_
      refine g_getC (n := 9) C in_X4_paid_X0 (k := 0) lk_X4_paid_3 rfl (Nat.le_of_ble_eq_true rfl) rfl (Nat.le_of_ble_eq_true rfl) rfl dX4_paid_26 ?_
      refine g_iload_n C 3 dX4_paid_29 rfl rfl ?_
      refine g_iald hf C rfl (Nat.le_of_ble_eq_true rfl) dX4_paid_30 (fun hf => ?_)
      obtain ⟨r3, hc2, hf⟩ := g_bind hf
      refine g_callVi C (mX3_cost l0 D0 K0 h σ (pR σ 0 8) v3 (pI σ 9 (v3).toNatClampNeg) hc2) gX4_paid_X3_cost rfl rfl rfl ddX3_cost ⟨(Nat.le_of_ble_eq_true rfl), (Nat.le_of_ble_eq_true rfl)⟩ (shV hg1) (ltV hg1) rfl rfl rfl (Nat.le_of_ble_eq_true rfl) dX4_paid_31 ?_
      refine g_istore C [1, 2, 3, 4, 0] dX4_paid_34 (Nat.le_of_ble_eq_true rfl) rfl ?_
      refine g_aload_n C 0 dX4_paid_36 rfl rfl ?_
      refine g_getC (n := 2) C in_X4_paid_X4 (k := 5) lk_X4_paid_2 rfl (Nat.le_of_ble_eq_true rfl) rfl (Nat.le_of_ble_eq_true rfl) rfl dX4_paid_37 ?_
      refine g_iload_n C 3 dX4_paid_40 rfl rfl ?_
      obtain ⟨r5, hc4, hf⟩ := g_bind hf
      refine g_callVi C (mX0_isPaid l0 D0 K0 h σ v3 hc4) gX4_paid_X0_isPaid rfl rfl rfl ddX0_isPaid ⟨(Nat.le_of_ble_eq_true rfl), (Nat.le_of_ble_eq_true rfl)⟩ rfl (Nat.le_of_ble_eq_true rfl) rfl rfl rfl (Nat.le_of_ble_eq_true rfl) dX4_paid_41 ?_
      refine g_if_eq (tgt := 55) hf C dX4_paid_44 (by decide) (fun hf => ?_) (fun hf => ?_)
      · refine g_iload_n C 2 dX4_paid_55 rfl rfl ?_
        refine g_iload C 4 dX4_paid_56 rfl ?_
        refine g_iadd C dX4_paid_58 ?_
        refine g_leti hf (fun x6 hf => ?_)
        refine g_istore_n C [1, 2, 0, 3] dX4_paid_59 rfl (Nat.le_of_ble_eq_true rfl) rfl ?_
        refine g_iinc C 3 [1, 2, 3, 0] dX4_paid_60 rfl ic_1 (Nat.le_of_ble_eq_true rfl) rfl ?_
        refine g_goto (tgt := 6) C dX4_paid_63 (by decide) ?_
        exact ih v1 x6 (v3 + (1 : Int32)) hf
      · refine g_iload_n C 1 dX4_paid_47 rfl rfl ?_
        refine g_iload C 4 dX4_paid_48 rfl ?_
        refine g_iadd C dX4_paid_50 ?_
        refine g_leti hf (fun x7 hf => ?_)
        refine g_istore_n C [1, 0, 2, 3] dX4_paid_51 rfl (Nat.le_of_ble_eq_true rfl) rfl ?_
        refine g_goto (tgt := 60) C dX4_paid_52 (by decide) ?_
        refine g_iinc C 3 [1, 2, 3, 0] dX4_paid_60 rfl ic_1 (Nat.le_of_ble_eq_true rfl) rfl ?_
        refine g_goto (tgt := 6) C dX4_paid_63 (by decide) ?_
        exact ih x7 v2 (v3 + (1 : Int32)) hf
set_option maxHeartbeats 4000000 in
set_option maxRecDepth 100000 in
theorem mX4_paid (l0 : Launch) (D0 : va_G) (K0 : Nat → ClassId) (h : Nat → Nat) (σ : pS)  {r : Int32} {u : pS} (hf : fX4_paid σ = some (r, u)) : Met l0 yX4_paid wsX4_paid ({ frames := 1, cells := 0, slots := 0, locals := 22 } : Room) (va_Pc [.ref (h 0)] (pIn wX D0 K0 h σ)) (va_Qi (fun r' u' => r' = r ∧ u' = u) (pOut wX D0 K0 h) (pA wX h)) 0 0 (pA wX h) := by
  refine p_metI (lv := [(0, .ref (h 0))]) (by decide +kernel) rfl rfl (Nat.le_of_ble_eq_true rfl) rfl (fun X C hret => ?_)
  unfold fX4_paid at hf
  refine g_iconst C dX4_paid_0 ic_0 ?_
  refine g_istore_n C [1, 0] dX4_paid_1 rfl (Nat.le_of_ble_eq_true rfl) rfl ?_
  refine g_iconst C dX4_paid_2 ic_0 ?_
  refine g_istore_n C [1, 2, 0] dX4_paid_3 rfl (Nat.le_of_ble_eq_true rfl) rfl ?_
  refine g_iconst C dX4_paid_4 ic_0 ?_
  refine g_istore_n C [1, 2, 3, 0] dX4_paid_5 rfl (Nat.le_of_ble_eq_true rfl) rfl ?_
  refine lX4_paid_6_ok σ C hret (fun y8 y9 hf => ?_) FU (0 : Int32) (0 : Int32) (0 : Int32) hf
  refine g_aload_n C 0 dX4_paid_66 rfl rfl ?_
  refine g_iload_n C 2 dX4_paid_67 rfl rfl ?_
  refine g_putI C in_X4_paid_X4 (k := 9) lk_X4_paid_4 rfl (Nat.le_of_ble_eq_true rfl) rfl (Nat.le_of_ble_eq_true rfl) tyX4 tyX4_ok nmX4 rfl rfl rfl rfl dX4_paid_68 ?_
  refine g_lets hf (fun σ10 hf => ?_)
  refine g_iload_n C 1 dX4_paid_71 rfl rfl ?_
  exact g_retiW hf hret dX4_paid_72
