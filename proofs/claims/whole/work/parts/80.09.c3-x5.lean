/-! X5_bestCost -/
theorem in_X5_bestCost_X5 : ∀ q ∈ u_ws RX5 TX5 30, q ∈ wsX5_bestCost := by decide +kernel
theorem lk_X5_bestCost_0 : Cond.fieldLink RX5 44 "EmptyHouseModel" "bests" "[I" ∈ wsX5_bestCost := by decide +kernel
theorem ddX5_bestCost : yX5_bestCost.cls = RX5 ∧ yX5_bestCost.cls ≠ "java/lang/invoke/MethodHandle" ∧ yX5_bestCost.cls ≠ "java/lang/invoke/VarHandle" ∧ (parseMethodDescriptor yX5_bestCost.desc).map (fun d => d.parameters.length) = some 0 := by decide +kernel
set_option maxHeartbeats 4000000 in
set_option maxRecDepth 100000 in
theorem mX5_bestCost (l0 : Launch) (D0 : va_G) (K0 : Nat → ClassId) (h : Nat → Nat) (σ : pS)  {r : Int32} (hf : fX5_bestCost σ = some r) : Met l0 yX5_bestCost wsX5_bestCost ({ frames := 1, cells := 0, slots := 0, locals := 21 } : Room) (va_Pc [.ref (h 0)] (pIn wM D0 K0 h σ)) (va_Qi (fun r' u' => r' = r ∧ u' = σ) (pOut wM D0 K0 h) (pA wM h)) 0 0 (pA wM h) := by
  refine p_metI (lv := [(0, .ref (h 0))]) (by decide +kernel) rfl rfl (Nat.le_of_ble_eq_true rfl) rfl (fun X C hret => ?_)
  unfold fX5_bestCost at hf
  refine g_sipush C dX5_bestCost_0 sp_10000 ?_
  refine g_aload_n C 0 dX5_bestCost_3 rfl rfl ?_
  obtain ⟨r2, hc1, hf⟩ := g_bind hf
  refine g_callVi C (mX5_paidMany l0 D0 K0 h σ hc1) gX5_bestCost_X5_paidMany rfl rfl rfl ddX5_paidMany ⟨(Nat.le_of_ble_eq_true rfl), (Nat.le_of_ble_eq_true rfl)⟩ rfl (Nat.le_of_ble_eq_true rfl) rfl rfl rfl (Nat.le_of_ble_eq_true rfl) dX5_bestCost_4 ?_
  refine g_imul C dX5_bestCost_7 ?_
  refine g_aload_n C 0 dX5_bestCost_8 rfl rfl ?_
  refine g_getC (n := 12) C in_X5_bestCost_X5 (k := 23) lk_X5_bestCost_0 rfl (Nat.le_of_ble_eq_true rfl) rfl (Nat.le_of_ble_eq_true rfl) rfl dX5_bestCost_9 ?_
  refine g_iconst C dX5_bestCost_12 ic_0 ?_
  refine g_iald hf C rfl (Nat.le_of_ble_eq_true rfl) dX5_bestCost_13 (fun hf => ?_)
  refine g_isub C dX5_bestCost_14 ?_
  exact g_reti hf hret dX5_bestCost_15
/-! X5_layRound -/
theorem in_X5_layRound_X5 : ∀ q ∈ u_ws RX5 TX5 30, q ∈ wsX5_layRound := by decide +kernel
theorem lk_X5_layRound_0 : Cond.fieldLink RX5 143 "EmptyHouseModel" "debtMany" "I" ∈ wsX5_layRound := by decide +kernel
theorem lk_X5_layRound_1 : Cond.fieldLink RX5 41 "EmptyHouseModel" "round" "[I" ∈ wsX5_layRound := by decide +kernel
theorem lk_X5_layRound_2 : Cond.fieldLink RX5 51 "EmptyHouseModel" "may" "[Z" ∈ wsX5_layRound := by decide +kernel
theorem lk_X5_layRound_3 : Cond.fieldLink RX5 44 "EmptyHouseModel" "bests" "[I" ∈ wsX5_layRound := by decide +kernel
theorem ddX5_layRound : yX5_layRound.cls = RX5 ∧ yX5_layRound.cls ≠ "java/lang/invoke/MethodHandle" ∧ yX5_layRound.cls ≠ "java/lang/invoke/VarHandle" ∧ (parseMethodDescriptor yX5_layRound.desc).map (fun d => d.parameters.length) = some 0 := by decide +kernel
set_option maxHeartbeats 4000000 in
set_option maxRecDepth 100000 in
theorem lX5_layRound_8_ok {h : Nat → Nat} {X : Cx} {l0 : Launch} {D0 : va_G} {K0 : Nat → ClassId} {k30 : pS → Option (Unit × pS)} {r : Unit} {u : pS} (C : Cok wM h X l0 ({ frames := 8, cells := 0, slots := 0, locals := 180 } : Room) D0 K0 cX5_layRound 5 RX5 wsX5_layRound) (hret : ∀ (pc : Nat) (lv' : List (Nat × Value)), decode cX5_layRound pc = .ok (.return_, 1) → G wM h X pc lv' [] u) (hk30 : ∀  (σ : pS), k30 σ = some (r, u) → G wM h X 30 [(0, .ref (h 0))] [] σ) : ∀ (F : Nat) (v1 : Int32) (σ : pS), lX5_layRound_8 k30 F v1 σ = some (r, u) → G wM h X 8 [(0, .ref (h 0)), (1, .int v1)] [] σ := by
  intro F
  induction F with
  | zero => intro v1 σ hf; exact absurd hf (by simp [lX5_layRound_8])
  | succ F ih =>
    intro v1 σ hf
    rw [lX5_layRound_8.eq_2] at hf
    refine g_iload_n C 1 dX5_layRound_8 rfl rfl ?_
    refine g_aload_n C 0 dX5_layRound_9 rfl rfl ?_
    refine g_getI C in_X5_layRound_X5 (k := 12) lk_X5_layRound_0 rfl (Nat.le_of_ble_eq_true rfl) rfl (Nat.le_of_ble_eq_true rfl) rfl dX5_layRound_10 ?_
    refine g_icmp_ge (tgt := 30) hf C dX5_layRound_13 (by decide) (fun hf => ?_) (fun hf => ?_)
    · refine g_lv [0] rfl ?_
      exact hk30 σ hf
    · refine g_aload_n C 0 dX5_layRound_16 rfl rfl ?_
      refine g_getC (n := 11) C in_X5_layRound_X5 (k := 21) lk_X5_layRound_1 rfl (Nat.le_of_ble_eq_true rfl) rfl (Nat.le_of_ble_eq_true rfl) rfl dX5_layRound_17 ?_
      refine g_iload_n C 1 dX5_layRound_20 rfl rfl ?_
      refine g_bipush C dX5_layRound_21 bp_m9 ?_
      refine g_iast hf C rfl (Nat.le_of_ble_eq_true rfl) dX5_layRound_23 (fun hf => ?_)
      refine g_lets hf (fun σ4 hf => ?_)
      refine g_iinc C 1 [1, 0] dX5_layRound_24 rfl ic_1 (Nat.le_of_ble_eq_true rfl) rfl ?_
      refine g_goto (tgt := 8) C dX5_layRound_27 (by decide) ?_
      exact ih (v1 + (1 : Int32)) σ4 hf
set_option maxHeartbeats 4000000 in
set_option maxRecDepth 100000 in
theorem lX5_layRound_47_ok {h : Nat → Nat} {X : Cx} {l0 : Launch} {D0 : va_G} {K0 : Nat → ClassId} (σ : pS) (p1 : Int32) (p2 : Int32) {k102 : Int32 → Option (Unit × pS)} {r : Unit} {u : pS} (C : Cok wM h X l0 ({ frames := 8, cells := 0, slots := 0, locals := 180 } : Room) D0 K0 cX5_layRound 5 RX5 wsX5_layRound) (hret : ∀ (pc : Nat) (lv' : List (Nat × Value)), decode cX5_layRound pc = .ok (.return_, 1) → G wM h X pc lv' [] u) (hk102 : ∀ (z3 : Int32), k102 z3 = some (r, u) → G wM h X 102 [(0, .ref (h 0)), (1, .int p1), (2, .int p2), (3, .int z3)] [] σ) : ∀ (F : Nat) (v3 : Int32), lX5_layRound_47 σ p1 p2 k102 F v3 = some (r, u) → G wM h X 47 [(0, .ref (h 0)), (1, .int p1), (2, .int p2), (3, .int v3)] [] σ := by
  intro F
  induction F with
  | zero => intro v3 hf; exact absurd hf (by simp [lX5_layRound_47])
  | succ F ih =>
    intro v3 hf
    rw [lX5_layRound_47.eq_2] at hf
    refine g_iload_n C 3 dX5_layRound_47 rfl rfl ?_
    refine g_iload_n C 1 dX5_layRound_48 rfl rfl ?_
    refine g_iand C dX5_layRound_49 ?_
    refine g_if_ne (tgt := 96) hf C dX5_layRound_50 (by decide) (fun hf => ?_) (fun hf => ?_)
    · refine g_iinc C 3 [1, 2, 3, 0] dX5_layRound_96 rfl ic_1 (Nat.le_of_ble_eq_true rfl) rfl ?_
      refine g_goto (tgt := 47) C dX5_layRound_99 (by decide) ?_
      exact ih (v3 + (1 : Int32)) hf
    · refine g_aload_n C 0 dX5_layRound_53 rfl rfl ?_
      refine g_getC (n := 14) C in_X5_layRound_X5 (k := 25) lk_X5_layRound_2 rfl (Nat.le_of_ble_eq_true rfl) rfl (Nat.le_of_ble_eq_true rfl) rfl dX5_layRound_54 ?_
      refine g_iload_n C 3 dX5_layRound_57 rfl rfl ?_
      refine g_zald hf C rfl (Nat.le_of_ble_eq_true rfl) dX5_layRound_58 (fun hf => ?_)
      refine g_if_eq (tgt := 96) hf C dX5_layRound_59 (by decide) (fun hf => ?_) (fun hf => ?_)
      · refine g_iinc C 3 [1, 2, 3, 0] dX5_layRound_96 rfl ic_1 (Nat.le_of_ble_eq_true rfl) rfl ?_
        refine g_goto (tgt := 47) C dX5_layRound_99 (by decide) ?_
        exact ih (v3 + (1 : Int32)) hf
      · refine g_aload_n C 0 dX5_layRound_62 rfl rfl ?_
        refine g_iload_n C 3 dX5_layRound_63 rfl rfl ?_
        refine g_iload_n C 2 dX5_layRound_64 rfl rfl ?_
        obtain ⟨r10, hc9, hf⟩ := g_bind hf
        refine g_callVi C (mX5_gain l0 D0 K0 h σ v3 p2 hc9) gX5_layRound_X5_gain rfl rfl rfl ddX5_gain ⟨(Nat.le_of_ble_eq_true rfl), (Nat.le_of_ble_eq_true rfl)⟩ rfl (Nat.le_of_ble_eq_true rfl) rfl rfl rfl (Nat.le_of_ble_eq_true rfl) dX5_layRound_65 ?_
        refine g_aload_n C 0 dX5_layRound_68 rfl rfl ?_
        refine g_getC (n := 12) C in_X5_layRound_X5 (k := 23) lk_X5_layRound_3 rfl (Nat.le_of_ble_eq_true rfl) rfl (Nat.le_of_ble_eq_true rfl) rfl dX5_layRound_69 ?_
        refine g_iload_n C 2 dX5_layRound_72 rfl rfl ?_
        refine g_iconst C dX5_layRound_73 ic_1 ?_
        refine g_iadd C dX5_layRound_74 ?_
        refine g_iload_n C 1 dX5_layRound_75 rfl rfl ?_
        refine g_iload_n C 3 dX5_layRound_76 rfl rfl ?_
        refine g_ior C dX5_layRound_77 ?_
        obtain ⟨r12, hc11, hf⟩ := g_bind hf
        refine g_callSi C (mX5_spot l0 D0 K0 h σ (p2 + (1 : Int32)) (p1 ||| v3) hc11) gX5_layRound_X5_spot rfl rfl rfl ddX5_spot ⟨(Nat.le_of_ble_eq_true rfl), (Nat.le_of_ble_eq_true rfl)⟩ rfl rfl (Nat.le_of_ble_eq_true rfl) dX5_layRound_78 ?_
        refine g_iald hf C rfl (Nat.le_of_ble_eq_true rfl) dX5_layRound_81 (fun hf => ?_)
        refine g_iadd C dX5_layRound_82 ?_
        refine g_aload_n C 0 dX5_layRound_83 rfl rfl ?_
        refine g_getC (n := 12) C in_X5_layRound_X5 (k := 23) lk_X5_layRound_3 rfl (Nat.le_of_ble_eq_true rfl) rfl (Nat.le_of_ble_eq_true rfl) rfl dX5_layRound_84 ?_
        refine g_iload_n C 2 dX5_layRound_87 rfl rfl ?_
        refine g_iload_n C 1 dX5_layRound_88 rfl rfl ?_
        obtain ⟨r14, hc13, hf⟩ := g_bind hf
        refine g_callSi C (mX5_spot l0 D0 K0 h σ p2 p1 hc13) gX5_layRound_X5_spot rfl rfl rfl ddX5_spot ⟨(Nat.le_of_ble_eq_true rfl), (Nat.le_of_ble_eq_true rfl)⟩ rfl rfl (Nat.le_of_ble_eq_true rfl) dX5_layRound_89 ?_
        refine g_iald hf C rfl (Nat.le_of_ble_eq_true rfl) dX5_layRound_92 (fun hf => ?_)
        refine g_icmp_eq (tgt := 102) hf C dX5_layRound_93 (by decide) (fun hf => ?_) (fun hf => ?_)
        · exact hk102 v3 hf
        · refine g_iinc C 3 [1, 2, 3, 0] dX5_layRound_96 rfl ic_1 (Nat.le_of_ble_eq_true rfl) rfl ?_
          refine g_goto (tgt := 47) C dX5_layRound_99 (by decide) ?_
          exact ih (v3 + (1 : Int32)) hf
set_option maxHeartbeats 4000000 in
set_option maxRecDepth 100000 in
theorem lX5_layRound_105_ok {h : Nat → Nat} {X : Cx} {l0 : Launch} {D0 : va_G} {K0 : Nat → ClassId} (p1 : Int32) (p2 : Int32) (p3 : Int32) {k147 : pS → Option (Unit × pS)} {r : Unit} {u : pS} (C : Cok wM h X l0 ({ frames := 8, cells := 0, slots := 0, locals := 180 } : Room) D0 K0 cX5_layRound 5 RX5 wsX5_layRound) (hret : ∀ (pc : Nat) (lv' : List (Nat × Value)), decode cX5_layRound pc = .ok (.return_, 1) → G wM h X pc lv' [] u) (hk147 : ∀  (σ : pS), k147 σ = some (r, u) → G wM h X 147 [(0, .ref (h 0)), (1, .int p1), (2, .int p2), (3, .int p3)] [] σ) : ∀ (F : Nat) (v4 : Int32) (σ : pS), lX5_layRound_105 p1 p2 p3 k147 F v4 σ = some (r, u) → G wM h X 105 [(0, .ref (h 0)), (1, .int p1), (2, .int p2), (3, .int p3), (4, .int v4)] [] σ := by
  intro F
  induction F with
  | zero => intro v4 σ hf; exact absurd hf (by simp [lX5_layRound_105])
  | succ F ih =>
    intro v4 σ hf
    rw [lX5_layRound_105.eq_2] at hf
    refine g_iload C 4 dX5_layRound_105 rfl ?_
    refine g_aload_n C 0 dX5_layRound_107 rfl rfl ?_
    refine g_getI C in_X5_layRound_X5 (k := 12) lk_X5_layRound_0 rfl (Nat.le_of_ble_eq_true rfl) rfl (Nat.le_of_ble_eq_true rfl) rfl dX5_layRound_108 ?_
    refine g_icmp_ge (tgt := 147) hf C dX5_layRound_111 (by decide) (fun hf => ?_) (fun hf => ?_)
    · refine g_lv [0, 1, 2, 3] rfl ?_
      exact hk147 σ hf
    · refine g_aload_n C 0 dX5_layRound_114 rfl rfl ?_
      refine g_getC (n := 11) C in_X5_layRound_X5 (k := 21) lk_X5_layRound_1 rfl (Nat.le_of_ble_eq_true rfl) rfl (Nat.le_of_ble_eq_true rfl) rfl dX5_layRound_115 ?_
      refine g_iload C 4 dX5_layRound_118 rfl ?_
      refine g_iload_n C 3 dX5_layRound_120 rfl rfl ?_
      refine g_iload C 4 dX5_layRound_121 rfl ?_
      obtain ⟨r17, hc16, hf⟩ := g_bind hf
      refine g_callSi C (mX5_has l0 D0 K0 h σ p3 v4 hc16) gX5_layRound_X5_has rfl rfl rfl ddX5_has ⟨(Nat.le_of_ble_eq_true rfl), (Nat.le_of_ble_eq_true rfl)⟩ rfl rfl (Nat.le_of_ble_eq_true rfl) dX5_layRound_123 ?_
      refine g_if_eq (tgt := 133) hf C dX5_layRound_126 (by decide) (fun hf => ?_) (fun hf => ?_)
      · refine g_aload_n C 0 dX5_layRound_133 rfl rfl ?_
        refine g_getC (n := 11) C in_X5_layRound_X5 (k := 21) lk_X5_layRound_1 rfl (Nat.le_of_ble_eq_true rfl) rfl (Nat.le_of_ble_eq_true rfl) rfl dX5_layRound_134 ?_
        refine g_iload C 4 dX5_layRound_137 rfl ?_
        refine g_iald hf C rfl (Nat.le_of_ble_eq_true rfl) dX5_layRound_139 (fun hf => ?_)
        refine g_iast hf C rfl (Nat.le_of_ble_eq_true rfl) dX5_layRound_140 (fun hf => ?_)
        refine g_lets hf (fun σ18 hf => ?_)
        refine g_iinc C 4 [1, 2, 3, 4, 0] dX5_layRound_141 rfl ic_1 (Nat.le_of_ble_eq_true rfl) rfl ?_
        refine g_goto (tgt := 105) C dX5_layRound_144 (by decide) ?_
        exact ih (v4 + (1 : Int32)) σ18 hf
      · refine g_iload_n C 2 dX5_layRound_129 rfl rfl ?_
        refine g_goto (tgt := 140) C dX5_layRound_130 (by decide) ?_
        refine g_iast hf C rfl (Nat.le_of_ble_eq_true rfl) dX5_layRound_140 (fun hf => ?_)
        refine g_lets hf (fun σ19 hf => ?_)
        refine g_iinc C 4 [1, 2, 3, 4, 0] dX5_layRound_141 rfl ic_1 (Nat.le_of_ble_eq_true rfl) rfl ?_
        refine g_goto (tgt := 105) C dX5_layRound_144 (by decide) ?_
        exact ih (v4 + (1 : Int32)) σ19 hf
set_option maxHeartbeats 4000000 in
set_option maxRecDepth 100000 in
theorem lX5_layRound_34_ok {h : Nat → Nat} {X : Cx} {l0 : Launch} {D0 : va_G} {K0 : Nat → ClassId} {k157 : pS → Option (Unit × pS)} {r : Unit} {u : pS} (C : Cok wM h X l0 ({ frames := 8, cells := 0, slots := 0, locals := 180 } : Room) D0 K0 cX5_layRound 5 RX5 wsX5_layRound) (hret : ∀ (pc : Nat) (lv' : List (Nat × Value)), decode cX5_layRound pc = .ok (.return_, 1) → G wM h X pc lv' [] u) (hk157 : ∀  (σ : pS), k157 σ = some (r, u) → G wM h X 157 [] [] σ) : ∀ (F : Nat) (v1 : Int32) (v2 : Int32) (σ : pS), lX5_layRound_34 k157 F v1 v2 σ = some (r, u) → G wM h X 34 [(0, .ref (h 0)), (1, .int v1), (2, .int v2)] [] σ := by
  intro F
  induction F with
  | zero => intro v1 v2 σ hf; exact absurd hf (by simp [lX5_layRound_34])
  | succ F ih =>
    intro v1 v2 σ hf
    rw [lX5_layRound_34.eq_2] at hf
    refine g_iload_n C 2 dX5_layRound_34 rfl rfl ?_
    refine g_bipush C dX5_layRound_35 bp_12 ?_
    refine g_icmp_ge (tgt := 157) hf C dX5_layRound_37 (by decide) (fun hf => ?_) (fun hf => ?_)
    · refine g_lv [] rfl ?_
      exact hk157 σ hf
    · refine g_aload_n C 0 dX5_layRound_40 rfl rfl ?_
      refine g_iload_n C 2 dX5_layRound_41 rfl rfl ?_
      obtain ⟨r7, σ8, hc6, hf⟩ := g_pbind hf
      refine g_callVv C (mX5_layMay l0 D0 K0 h σ v2 hc6) gX5_layRound_X5_layMay rfl rfl rfl ddX5_layMay ⟨(Nat.le_of_ble_eq_true rfl), (Nat.le_of_ble_eq_true rfl)⟩ rfl (Nat.le_of_ble_eq_true rfl) rfl rfl rfl (Nat.le_of_ble_eq_true rfl) dX5_layRound_42 ?_
      refine g_iconst C dX5_layRound_45 ic_0 ?_
      refine g_istore_n C [1, 2, 3, 0] dX5_layRound_46 rfl (Nat.le_of_ble_eq_true rfl) rfl ?_
      refine lX5_layRound_47_ok σ8 v1 v2 C hret (fun y15 hf => ?_) FU (0 : Int32) hf
      refine g_iconst C dX5_layRound_102 ic_0 ?_
      refine g_istore C [1, 2, 3, 4, 0] dX5_layRound_103 (Nat.le_of_ble_eq_true rfl) rfl ?_
      refine lX5_layRound_105_ok v1 v2 y15 C hret (fun σ20 hf => ?_) FU (0 : Int32) σ8 hf
      refine g_iload_n C 1 dX5_layRound_147 rfl rfl ?_
      refine g_iload_n C 3 dX5_layRound_148 rfl rfl ?_
      refine g_ior C dX5_layRound_149 ?_
      refine g_leti hf (fun x21 hf => ?_)
      refine g_istore_n C [1, 0, 2] dX5_layRound_150 rfl (Nat.le_of_ble_eq_true rfl) rfl ?_
      refine g_iinc C 2 [1, 2, 0] dX5_layRound_151 rfl ic_1 (Nat.le_of_ble_eq_true rfl) rfl ?_
      refine g_goto (tgt := 34) C dX5_layRound_154 (by decide) ?_
      exact ih x21 (v2 + (1 : Int32)) σ20 hf
set_option maxHeartbeats 4000000 in
set_option maxRecDepth 100000 in
theorem mX5_layRound (l0 : Launch) (D0 : va_G) (K0 : Nat → ClassId) (h : Nat → Nat) (σ : pS)  {r : Unit} {u : pS} (hf : fX5_layRound σ = some (r, u)) : Met l0 yX5_layRound wsX5_layRound ({ frames := 8, cells := 0, slots := 0, locals := 180 } : Room) (va_Pc [.ref (h 0)] (pIn wM D0 K0 h σ)) (va_Qv (fun u' => u' = u) (pOut wM D0 K0 h) (pA wM h)) 0 0 (pA wM h) := by
  refine p_metV (lv := [(0, .ref (h 0))]) (by decide +kernel) rfl rfl (Nat.le_of_ble_eq_true rfl) rfl (fun X C hret => ?_)
  unfold fX5_layRound at hf
  refine g_aload_n C 0 dX5_layRound_0 rfl rfl ?_
  refine g_bipush C dX5_layRound_1 bp_12 ?_
  obtain ⟨r2, σ3, hc1, hf⟩ := g_pbind hf
  refine g_callVv C (mX5_layRounds l0 D0 K0 h σ (12 : Int32) hc1) gX5_layRound_X5_layRounds rfl rfl rfl ddX5_layRounds ⟨(Nat.le_of_ble_eq_true rfl), (Nat.le_of_ble_eq_true rfl)⟩ rfl (Nat.le_of_ble_eq_true rfl) rfl rfl rfl (Nat.le_of_ble_eq_true rfl) dX5_layRound_3 ?_
  refine g_iconst C dX5_layRound_6 ic_0 ?_
  refine g_istore_n C [1, 0] dX5_layRound_7 rfl (Nat.le_of_ble_eq_true rfl) rfl ?_
  refine lX5_layRound_8_ok  C hret (fun σ5 hf => ?_) FU (0 : Int32) σ3 hf
  refine g_iconst C dX5_layRound_30 ic_0 ?_
  refine g_istore_n C [1, 0] dX5_layRound_31 rfl (Nat.le_of_ble_eq_true rfl) rfl ?_
  refine g_iconst C dX5_layRound_32 ic_0 ?_
  refine g_istore_n C [1, 2, 0] dX5_layRound_33 rfl (Nat.le_of_ble_eq_true rfl) rfl ?_
  refine lX5_layRound_34_ok  C hret (fun σ22 hf => ?_) FU (0 : Int32) (0 : Int32) σ5 hf
  exact g_retvW hf hret dX5_layRound_157
/-! X5_best -/
theorem in_X5_best_X5 : ∀ q ∈ u_ws RX5 TX5 30, q ∈ wsX5_best := by decide +kernel
theorem lk_X5_best_0 : Cond.fieldLink RX5 13 "EmptyHouseModel" "sizes" "[I" ∈ wsX5_best := by decide +kernel
theorem lk_X5_best_1 : Cond.fieldLink RX5 143 "EmptyHouseModel" "debtMany" "I" ∈ wsX5_best := by decide +kernel
theorem lk_X5_best_2 : Cond.fieldLink RX5 16 "EmptyHouseModel" "rows" "[I" ∈ wsX5_best := by decide +kernel
theorem lk_X5_best_3 : Cond.fieldLink RX5 41 "EmptyHouseModel" "round" "[I" ∈ wsX5_best := by decide +kernel
theorem ddX5_best : yX5_best.cls = RX5 ∧ yX5_best.cls ≠ "java/lang/invoke/MethodHandle" ∧ yX5_best.cls ≠ "java/lang/invoke/VarHandle" ∧ (parseMethodDescriptor yX5_best.desc).map (fun d => d.parameters.length) = some 1 := by decide +kernel
set_option maxHeartbeats 4000000 in
set_option maxRecDepth 100000 in
theorem lX5_best_25_ok {h : Nat → Nat} {X : Cx} {l0 : Launch} {D0 : va_G} {K0 : Nat → ClassId} (p1 : Int32) {k66 : pS → Option (Int32 × pS)} {r : Int32} {u : pS} (C : Cok wM h X l0 ({ frames := 9, cells := 0, slots := 0, locals := 204 } : Room) D0 K0 cX5_best 3 RX5 wsX5_best) (hret : ∀ (pc : Nat) (lv' : List (Nat × Value)), decode cX5_best pc = .ok (.ireturn, 1) → G wM h X pc lv' [.int r] u) (hk66 : ∀  (σ : pS), k66 σ = some (r, u) → G wM h X 66 [(0, .ref (h 0))] [] σ) : ∀ (F : Nat) (v2 : Int32) (σ : pS), lX5_best_25 p1 k66 F v2 σ = some (r, u) → G wM h X 25 [(0, .ref (h 0)), (1, .int p1), (2, .int v2)] [] σ := by
  intro F
  induction F with
  | zero => intro v2 σ hf; exact absurd hf (by simp [lX5_best_25])
  | succ F ih =>
    intro v2 σ hf
    rw [lX5_best_25.eq_2] at hf
    refine g_iload_n C 2 dX5_best_25 rfl rfl ?_
    refine g_bipush C dX5_best_26 bp_60 ?_
    refine g_icmp_ge (tgt := 66) hf C dX5_best_28 (by decide) (fun hf => ?_) (fun hf => ?_)
    · refine g_lv [0] rfl ?_
      exact hk66 σ hf
    · refine g_aload_n C 0 dX5_best_31 rfl rfl ?_
      refine g_getC (n := 3) C in_X5_best_X5 (k := 6) lk_X5_best_2 rfl (Nat.le_of_ble_eq_true rfl) rfl (Nat.le_of_ble_eq_true rfl) rfl dX5_best_32 ?_
      refine g_bipush C dX5_best_35 bp_60 ?_
      refine g_iload_n C 1 dX5_best_37 rfl rfl ?_
      refine g_imul C dX5_best_38 ?_
      refine g_iload_n C 2 dX5_best_39 rfl rfl ?_
      refine g_iadd C dX5_best_40 ?_
      refine g_iload_n C 2 dX5_best_41 rfl rfl ?_
      refine g_aload_n C 0 dX5_best_42 rfl rfl ?_
      refine g_getI C in_X5_best_X5 (k := 12) lk_X5_best_1 rfl (Nat.le_of_ble_eq_true rfl) rfl (Nat.le_of_ble_eq_true rfl) rfl dX5_best_43 ?_
      refine g_icmp_ge (tgt := 58) hf C dX5_best_46 (by decide) (fun hf => ?_) (fun hf => ?_)
      · refine g_iconst C dX5_best_58 ic_0 ?_
        refine g_iast hf C rfl (Nat.le_of_ble_eq_true rfl) dX5_best_59 (fun hf => ?_)
        refine g_lets hf (fun σ7 hf => ?_)
        refine g_iinc C 2 [1, 2, 0] dX5_best_60 rfl ic_1 (Nat.le_of_ble_eq_true rfl) rfl ?_
        refine g_goto (tgt := 25) C dX5_best_63 (by decide) ?_
        exact ih (v2 + (1 : Int32)) σ7 hf
      · refine g_aload_n C 0 dX5_best_49 rfl rfl ?_
        refine g_getC (n := 11) C in_X5_best_X5 (k := 21) lk_X5_best_3 rfl (Nat.le_of_ble_eq_true rfl) rfl (Nat.le_of_ble_eq_true rfl) rfl dX5_best_50 ?_
        refine g_iload_n C 2 dX5_best_53 rfl rfl ?_
        refine g_iald hf C rfl (Nat.le_of_ble_eq_true rfl) dX5_best_54 (fun hf => ?_)
        refine g_goto (tgt := 59) C dX5_best_55 (by decide) ?_
        refine g_iast hf C rfl (Nat.le_of_ble_eq_true rfl) dX5_best_59 (fun hf => ?_)
        refine g_lets hf (fun σ8 hf => ?_)
        refine g_iinc C 2 [1, 2, 0] dX5_best_60 rfl ic_1 (Nat.le_of_ble_eq_true rfl) rfl ?_
        refine g_goto (tgt := 25) C dX5_best_63 (by decide) ?_
        exact ih (v2 + (1 : Int32)) σ8 hf
set_option maxHeartbeats 4000000 in
set_option maxRecDepth 100000 in
theorem mX5_best (l0 : Launch) (D0 : va_G) (K0 : Nat → ClassId) (h : Nat → Nat) (σ : pS) (a1 : Int32) {r : Int32} {u : pS} (hf : fX5_best σ a1 = some (r, u)) : Met l0 yX5_best wsX5_best ({ frames := 9, cells := 0, slots := 0, locals := 204 } : Room) (va_Pc [.ref (h 0), .int a1] (pIn wM D0 K0 h σ)) (va_Qi (fun r' u' => r' = r ∧ u' = u) (pOut wM D0 K0 h) (pA wM h)) 0 0 (pA wM h) := by
  refine p_metI (lv := [(0, .ref (h 0)), (1, .int a1)]) (by decide +kernel) rfl rfl (Nat.le_of_ble_eq_true rfl) rfl (fun X C hret => ?_)
  unfold fX5_best at hf
  refine g_iload_n C 1 dX5_best_0 rfl rfl ?_
  obtain ⟨r2, hc1, hf⟩ := g_bind hf
  refine g_callSi C (mX5_isRow l0 D0 K0 h σ a1 hc1) gX5_best_X5_isRow rfl rfl rfl ddX5_isRow ⟨(Nat.le_of_ble_eq_true rfl), (Nat.le_of_ble_eq_true rfl)⟩ rfl rfl (Nat.le_of_ble_eq_true rfl) dX5_best_1 ?_
  refine g_if_ne (tgt := 9) hf C dX5_best_4 (by decide) (fun hf => ?_) (fun hf => ?_)
  · refine g_aload_n C 0 dX5_best_9 rfl rfl ?_
    obtain ⟨r4, σ5, hc3, hf⟩ := g_pbind hf
    refine g_callVv C (mX5_layRound l0 D0 K0 h σ hc3) gX5_best_X5_layRound rfl rfl rfl ddX5_layRound ⟨(Nat.le_of_ble_eq_true rfl), (Nat.le_of_ble_eq_true rfl)⟩ rfl (Nat.le_of_ble_eq_true rfl) rfl rfl rfl (Nat.le_of_ble_eq_true rfl) dX5_best_10 ?_
    refine g_aload_n C 0 dX5_best_13 rfl rfl ?_
    refine g_getC (n := 2) C in_X5_best_X5 (k := 5) lk_X5_best_0 rfl (Nat.le_of_ble_eq_true rfl) rfl (Nat.le_of_ble_eq_true rfl) rfl dX5_best_14 ?_
    refine g_iload_n C 1 dX5_best_17 rfl rfl ?_
    refine g_aload_n C 0 dX5_best_18 rfl rfl ?_
    refine g_getI C in_X5_best_X5 (k := 12) lk_X5_best_1 rfl (Nat.le_of_ble_eq_true rfl) rfl (Nat.le_of_ble_eq_true rfl) rfl dX5_best_19 ?_
    refine g_iast hf C rfl (Nat.le_of_ble_eq_true rfl) dX5_best_22 (fun hf => ?_)
    refine g_lets hf (fun σ6 hf => ?_)
    refine g_iconst C dX5_best_23 ic_0 ?_
    refine g_istore_n C [1, 2, 0] dX5_best_24 rfl (Nat.le_of_ble_eq_true rfl) rfl ?_
    refine lX5_best_25_ok a1 C hret (fun σ9 hf => ?_) FU (0 : Int32) σ6 hf
    refine g_aload_n C 0 dX5_best_66 rfl rfl ?_
    refine g_aload_n C 0 dX5_best_67 rfl rfl ?_
    obtain ⟨r11, hc10, hf⟩ := g_bind hf
    refine g_callVi C (mX5_bestCost l0 D0 K0 h σ9 hc10) gX5_best_X5_bestCost rfl rfl rfl ddX5_bestCost ⟨(Nat.le_of_ble_eq_true rfl), (Nat.le_of_ble_eq_true rfl)⟩ rfl (Nat.le_of_ble_eq_true rfl) rfl rfl rfl (Nat.le_of_ble_eq_true rfl) dX5_best_68 ?_
    refine g_aload_n C 0 dX5_best_71 rfl rfl ?_
    obtain ⟨r13, hc12, hf⟩ := g_bind hf
    refine g_callVi C (mX5_paidMany l0 D0 K0 h σ9 hc12) gX5_best_X5_paidMany rfl rfl rfl ddX5_paidMany ⟨(Nat.le_of_ble_eq_true rfl), (Nat.le_of_ble_eq_true rfl)⟩ rfl (Nat.le_of_ble_eq_true rfl) rfl rfl rfl (Nat.le_of_ble_eq_true rfl) dX5_best_72 ?_
    obtain ⟨r15, σ16, hc14, hf⟩ := g_pbind hf
    refine g_callVi C (mX5_tells l0 D0 K0 h σ9 r11 r13 hc14) gX5_best_X5_tells rfl rfl rfl ddX5_tells ⟨(Nat.le_of_ble_eq_true rfl), (Nat.le_of_ble_eq_true rfl)⟩ rfl (Nat.le_of_ble_eq_true rfl) rfl rfl rfl (Nat.le_of_ble_eq_true rfl) dX5_best_75 ?_
    exact g_retiW hf hret dX5_best_78
  · refine g_iconst C dX5_best_7 ic_m1 ?_
    exact g_retiW hf hret dX5_best_8
/-! X5_ways -/
theorem in_X5_ways_X5 : ∀ q ∈ u_ws RX5 TX5 30, q ∈ wsX5_ways := by decide +kernel
theorem lk_X5_ways_0 : Cond.fieldLink RX5 47 "EmptyHouseModel" "waysOn" "[J" ∈ wsX5_ways := by decide +kernel
theorem lk_X5_ways_1 : Cond.fieldLink RX5 79 "EmptyHouseModel" "upper" "J" ∈ wsX5_ways := by decide +kernel
theorem lk_X5_ways_2 : Cond.fieldLink RX5 64 "EmptyHouseModel" "lower" "J" ∈ wsX5_ways := by decide +kernel
theorem ddX5_ways : yX5_ways.cls = RX5 ∧ yX5_ways.cls ≠ "java/lang/invoke/MethodHandle" ∧ yX5_ways.cls ≠ "java/lang/invoke/VarHandle" ∧ (parseMethodDescriptor yX5_ways.desc).map (fun d => d.parameters.length) = some 0 := by decide +kernel
set_option maxHeartbeats 4000000 in
set_option maxRecDepth 100000 in
theorem mX5_ways (l0 : Launch) (D0 : va_G) (K0 : Nat → ClassId) (h : Nat → Nat) (σ : pS)  {r : Int32} {u : pS} (hf : fX5_ways σ = some (r, u)) : Met l0 yX5_ways wsX5_ways ({ frames := 8, cells := 0, slots := 0, locals := 180 } : Room) (va_Pc [.ref (h 0)] (pIn wM D0 K0 h σ)) (va_Qi (fun r' u' => r' = r ∧ u' = u) (pOut wM D0 K0 h) (pA wM h)) 0 0 (pA wM h) := by
  refine p_metI (lv := [(0, .ref (h 0))]) (by decide +kernel) rfl rfl (Nat.le_of_ble_eq_true rfl) rfl (fun X C hret => ?_)
  unfold fX5_ways at hf
  refine g_aload_n C 0 dX5_ways_0 rfl rfl ?_
  refine g_bipush C dX5_ways_1 bp_12 ?_
  obtain ⟨r2, σ3, hc1, hf⟩ := g_pbind hf
  refine g_callVv C (mX5_layRounds l0 D0 K0 h σ (12 : Int32) hc1) gX5_ways_X5_layRounds rfl rfl rfl ddX5_layRounds ⟨(Nat.le_of_ble_eq_true rfl), (Nat.le_of_ble_eq_true rfl)⟩ rfl (Nat.le_of_ble_eq_true rfl) rfl rfl rfl (Nat.le_of_ble_eq_true rfl) dX5_ways_3 ?_
  refine g_aload_n C 0 dX5_ways_6 rfl rfl ?_
  refine g_aload_n C 0 dX5_ways_7 rfl rfl ?_
  refine g_getC (n := 13) C in_X5_ways_X5 (k := 24) lk_X5_ways_0 rfl (Nat.le_of_ble_eq_true rfl) rfl (Nat.le_of_ble_eq_true rfl) rfl dX5_ways_8 ?_
  refine g_iconst C dX5_ways_11 ic_0 ?_
  refine g_lald hf C rfl (Nat.le_of_ble_eq_true rfl) dX5_ways_12 (fun hf => ?_)
  refine g_putL C in_X5_ways_X5 (k := 3) lk_X5_ways_1 rfl (Nat.le_of_ble_eq_true rfl) rfl (Nat.le_of_ble_eq_true rfl) tyX5 tyX5_ok nmX5 rfl rfl rfl rfl dX5_ways_13 ?_
  refine g_lets hf (fun σ4 hf => ?_)
  refine g_aload_n C 0 dX5_ways_16 rfl rfl ?_
  refine g_lconst C dX5_ways_17 lc_1 ?_
  refine g_putL C in_X5_ways_X5 (k := 4) lk_X5_ways_2 rfl (Nat.le_of_ble_eq_true rfl) rfl (Nat.le_of_ble_eq_true rfl) tyX5 tyX5_ok nmX5 rfl rfl rfl rfl dX5_ways_18 ?_
  refine g_lets hf (fun σ5 hf => ?_)
  refine g_iconst C dX5_ways_21 ic_1 ?_
  exact g_retiW hf hret dX5_ways_22
/-! X5_soonest -/
theorem ddX5_soonest : yX5_soonest.cls = RX5 ∧ yX5_soonest.cls ≠ "java/lang/invoke/MethodHandle" ∧ yX5_soonest.cls ≠ "java/lang/invoke/VarHandle" ∧ (parseMethodDescriptor yX5_soonest.desc).map (fun d => d.parameters.length) = some 0 := by decide +kernel
set_option maxHeartbeats 4000000 in
set_option maxRecDepth 100000 in
theorem lX5_soonest_13_ok {h : Nat → Nat} {X : Cx} {l0 : Launch} {D0 : va_G} {K0 : Nat → ClassId} (p1 : Int32) {k48 : pS → Option (Int32 × pS)} {r : Int32} {u : pS} (C : Cok wM h X l0 ({ frames := 8, cells := 0, slots := 0, locals := 180 } : Room) D0 K0 cX5_soonest 3 RX5 wsX5_soonest) (hret : ∀ (pc : Nat) (lv' : List (Nat × Value)), decode cX5_soonest pc = .ok (.ireturn, 1) → G wM h X pc lv' [.int r] u) (hk48 : ∀  (σ : pS), k48 σ = some (r, u) → G wM h X 48 [(0, .ref (h 0))] [] σ) : ∀ (F : Nat) (v2 : Int32) (σ : pS), lX5_soonest_13 p1 k48 F v2 σ = some (r, u) → G wM h X 13 [(0, .ref (h 0)), (1, .int p1), (2, .int v2)] [] σ := by
  intro F
  induction F with
  | zero => intro v2 σ hf; exact absurd hf (by simp [lX5_soonest_13])
  | succ F ih =>
    intro v2 σ hf
    rw [lX5_soonest_13.eq_2] at hf
    refine g_iload_n C 2 dX5_soonest_13 rfl rfl ?_
    refine g_bipush C dX5_soonest_14 bp_12 ?_
    refine g_icmp_ge (tgt := 48) hf C dX5_soonest_16 (by decide) (fun hf => ?_) (fun hf => ?_)
    · refine g_lv [0] rfl ?_
      exact hk48 σ hf
    · refine g_aload_n C 0 dX5_soonest_19 rfl rfl ?_
      refine g_iload_n C 2 dX5_soonest_20 rfl rfl ?_
      obtain ⟨r7, σ8, hc6, hf⟩ := g_pbind hf
      refine g_callVv C (mX5_layRounds l0 D0 K0 h σ v2 hc6) gX5_soonest_X5_layRounds rfl rfl rfl ddX5_layRounds ⟨(Nat.le_of_ble_eq_true rfl), (Nat.le_of_ble_eq_true rfl)⟩ rfl (Nat.le_of_ble_eq_true rfl) rfl rfl rfl (Nat.le_of_ble_eq_true rfl) dX5_soonest_21 ?_
      refine g_aload_n C 0 dX5_soonest_24 rfl rfl ?_
      obtain ⟨r10, hc9, hf⟩ := g_bind hf
      refine g_callVi C (mX5_paidMany l0 D0 K0 h σ8 hc9) gX5_soonest_X5_paidMany rfl rfl rfl ddX5_paidMany ⟨(Nat.le_of_ble_eq_true rfl), (Nat.le_of_ble_eq_true rfl)⟩ rfl (Nat.le_of_ble_eq_true rfl) rfl rfl rfl (Nat.le_of_ble_eq_true rfl) dX5_soonest_25 ?_
      refine g_iload_n C 1 dX5_soonest_28 rfl rfl ?_
      refine g_icmp_ne (tgt := 42) hf C dX5_soonest_29 (by decide) (fun hf => ?_) (fun hf => ?_)
      · refine g_iinc C 2 [1, 2, 0] dX5_soonest_42 rfl ic_1 (Nat.le_of_ble_eq_true rfl) rfl ?_
        refine g_goto (tgt := 13) C dX5_soonest_45 (by decide) ?_
        exact ih (v2 + (1 : Int32)) σ8 hf
      · refine g_aload_n C 0 dX5_soonest_32 rfl rfl ?_
        refine g_aload_n C 0 dX5_soonest_33 rfl rfl ?_
        obtain ⟨r12, hc11, hf⟩ := g_bind hf
        refine g_callVi C (mX5_bestCost l0 D0 K0 h σ8 hc11) gX5_soonest_X5_bestCost rfl rfl rfl ddX5_bestCost ⟨(Nat.le_of_ble_eq_true rfl), (Nat.le_of_ble_eq_true rfl)⟩ rfl (Nat.le_of_ble_eq_true rfl) rfl rfl rfl (Nat.le_of_ble_eq_true rfl) dX5_soonest_34 ?_
        refine g_iload_n C 2 dX5_soonest_37 rfl rfl ?_
        obtain ⟨r14, σ15, hc13, hf⟩ := g_pbind hf
        refine g_callVi C (mX5_tells l0 D0 K0 h σ8 r12 v2 hc13) gX5_soonest_X5_tells rfl rfl rfl ddX5_tells ⟨(Nat.le_of_ble_eq_true rfl), (Nat.le_of_ble_eq_true rfl)⟩ rfl (Nat.le_of_ble_eq_true rfl) rfl rfl rfl (Nat.le_of_ble_eq_true rfl) dX5_soonest_38 ?_
        exact g_retiW hf hret dX5_soonest_41
set_option maxHeartbeats 4000000 in
set_option maxRecDepth 100000 in
theorem mX5_soonest (l0 : Launch) (D0 : va_G) (K0 : Nat → ClassId) (h : Nat → Nat) (σ : pS)  {r : Int32} {u : pS} (hf : fX5_soonest σ = some (r, u)) : Met l0 yX5_soonest wsX5_soonest ({ frames := 8, cells := 0, slots := 0, locals := 180 } : Room) (va_Pc [.ref (h 0)] (pIn wM D0 K0 h σ)) (va_Qi (fun r' u' => r' = r ∧ u' = u) (pOut wM D0 K0 h) (pA wM h)) 0 0 (pA wM h) := by
  refine p_metI (lv := [(0, .ref (h 0))]) (by decide +kernel) rfl rfl (Nat.le_of_ble_eq_true rfl) rfl (fun X C hret => ?_)
  unfold fX5_soonest at hf
  refine g_aload_n C 0 dX5_soonest_0 rfl rfl ?_
  refine g_bipush C dX5_soonest_1 bp_12 ?_
  obtain ⟨r2, σ3, hc1, hf⟩ := g_pbind hf
  refine g_callVv C (mX5_layRounds l0 D0 K0 h σ (12 : Int32) hc1) gX5_soonest_X5_layRounds rfl rfl rfl ddX5_layRounds ⟨(Nat.le_of_ble_eq_true rfl), (Nat.le_of_ble_eq_true rfl)⟩ rfl (Nat.le_of_ble_eq_true rfl) rfl rfl rfl (Nat.le_of_ble_eq_true rfl) dX5_soonest_3 ?_
  refine g_aload_n C 0 dX5_soonest_6 rfl rfl ?_
  obtain ⟨r5, hc4, hf⟩ := g_bind hf
  refine g_callVi C (mX5_paidMany l0 D0 K0 h σ3 hc4) gX5_soonest_X5_paidMany rfl rfl rfl ddX5_paidMany ⟨(Nat.le_of_ble_eq_true rfl), (Nat.le_of_ble_eq_true rfl)⟩ rfl (Nat.le_of_ble_eq_true rfl) rfl rfl rfl (Nat.le_of_ble_eq_true rfl) dX5_soonest_7 ?_
  refine g_istore_n C [1, 0] dX5_soonest_10 rfl (Nat.le_of_ble_eq_true rfl) rfl ?_
  refine g_iconst C dX5_soonest_11 ic_0 ?_
  refine g_istore_n C [1, 2, 0] dX5_soonest_12 rfl (Nat.le_of_ble_eq_true rfl) rfl ?_
  refine lX5_soonest_13_ok r5 C hret (fun σ16 hf => ?_) FU (0 : Int32) σ3 hf
  refine g_aload_n C 0 dX5_soonest_48 rfl rfl ?_
  refine g_bipush C dX5_soonest_49 bp_12 ?_
  obtain ⟨r18, σ19, hc17, hf⟩ := g_pbind hf
  refine g_callVv C (mX5_layRounds l0 D0 K0 h σ16 (12 : Int32) hc17) gX5_soonest_X5_layRounds rfl rfl rfl ddX5_layRounds ⟨(Nat.le_of_ble_eq_true rfl), (Nat.le_of_ble_eq_true rfl)⟩ rfl (Nat.le_of_ble_eq_true rfl) rfl rfl rfl (Nat.le_of_ble_eq_true rfl) dX5_soonest_51 ?_
  refine g_aload_n C 0 dX5_soonest_54 rfl rfl ?_
  refine g_aload_n C 0 dX5_soonest_55 rfl rfl ?_
  obtain ⟨r21, hc20, hf⟩ := g_bind hf
  refine g_callVi C (mX5_bestCost l0 D0 K0 h σ19 hc20) gX5_soonest_X5_bestCost rfl rfl rfl ddX5_bestCost ⟨(Nat.le_of_ble_eq_true rfl), (Nat.le_of_ble_eq_true rfl)⟩ rfl (Nat.le_of_ble_eq_true rfl) rfl rfl rfl (Nat.le_of_ble_eq_true rfl) dX5_soonest_56 ?_
  refine g_bipush C dX5_soonest_59 bp_12 ?_
  obtain ⟨r23, σ24, hc22, hf⟩ := g_pbind hf
  refine g_callVi C (mX5_tells l0 D0 K0 h σ19 r21 (12 : Int32) hc22) gX5_soonest_X5_tells rfl rfl rfl ddX5_tells ⟨(Nat.le_of_ble_eq_true rfl), (Nat.le_of_ble_eq_true rfl)⟩ rfl (Nat.le_of_ble_eq_true rfl) rfl rfl rfl (Nat.le_of_ble_eq_true rfl) dX5_soonest_61 ?_
  exact g_retiW hf hret dX5_soonest_64
/-! X5_ringOf -/
theorem in_X5_ringOf_X5 : ∀ q ∈ u_ws RX5 TX5 30, q ∈ wsX5_ringOf := by decide +kernel
theorem lk_X5_ringOf_0 : Cond.fieldLink RX5 140 "EmptyHouseModel" "n" "I" ∈ wsX5_ringOf := by decide +kernel
theorem lk_X5_ringOf_1 : Cond.fieldLink RX5 143 "EmptyHouseModel" "debtMany" "I" ∈ wsX5_ringOf := by decide +kernel
theorem ddX5_ringOf : yX5_ringOf.cls = RX5 ∧ yX5_ringOf.cls ≠ "java/lang/invoke/MethodHandle" ∧ yX5_ringOf.cls ≠ "java/lang/invoke/VarHandle" ∧ (parseMethodDescriptor yX5_ringOf.desc).map (fun d => d.parameters.length) = some 1 := by decide +kernel
set_option maxHeartbeats 4000000 in
set_option maxRecDepth 100000 in
theorem lX5_ringOf_26_ok {h : Nat → Nat} {X : Cx} {l0 : Launch} {D0 : va_G} {K0 : Nat → ClassId} (σ : pS) (p1 : Int32) (p2 : Int32) (p3 : Int32) (p4 : Int32) {k73 : Int32 → Option Int32} {r : Int32} (C : Cok wM h X l0 ({ frames := 1, cells := 0, slots := 0, locals := 22 } : Room) D0 K0 cX5_ringOf 7 RX5 wsX5_ringOf) (hret : ∀ (pc : Nat) (lv' : List (Nat × Value)), decode cX5_ringOf pc = .ok (.ireturn, 1) → G wM h X pc lv' [.int r] σ) (hk73 : ∀ (z5 : Int32), k73 z5 = some r → G wM h X 73 [(0, .ref (h 0)), (1, .int p1), (2, .int p2), (4, .int p4), (5, .int z5)] [] σ) : ∀ (F : Nat) (v5 : Int32) (v6 : Int32), lX5_ringOf_26 σ p1 p2 p3 p4 k73 F v5 v6 = some r → G wM h X 26 [(0, .ref (h 0)), (1, .int p1), (2, .int p2), (3, .int p3), (4, .int p4), (5, .int v5), (6, .int v6)] [] σ := by
  intro F
  induction F with
  | zero => intro v5 v6 hf; exact absurd hf (by simp [lX5_ringOf_26])
  | succ F ih =>
    intro v5 v6 hf
    rw [lX5_ringOf_26.eq_2] at hf
    refine g_iload C 6 dX5_ringOf_26 rfl ?_
    refine g_aload_n C 0 dX5_ringOf_28 rfl rfl ?_
    refine g_getI C in_X5_ringOf_X5 (k := 12) lk_X5_ringOf_1 rfl (Nat.le_of_ble_eq_true rfl) rfl (Nat.le_of_ble_eq_true rfl) rfl dX5_ringOf_29 ?_
    refine g_icmp_ge (tgt := 73) hf C dX5_ringOf_32 (by decide) (fun hf => ?_) (fun hf => ?_)
    · refine g_lv [0, 1, 2, 4, 5] rfl ?_
      exact hk73 v5 hf
    · refine g_iload C 5 dX5_ringOf_35 rfl ?_
      refine g_iload_n C 3 dX5_ringOf_37 rfl rfl ?_
      refine g_aload_n C 0 dX5_ringOf_38 rfl rfl ?_
      refine g_iload C 6 dX5_ringOf_39 rfl ?_
      refine g_iconst C dX5_ringOf_41 ic_0 ?_
      obtain ⟨r4, hc3, hf⟩ := g_bind hf
      refine g_callVi C (mX5_debtAt l0 D0 K0 h σ v6 (0 : Int32) hc3) gX5_ringOf_X5_debtAt rfl rfl rfl ddX5_debtAt ⟨(Nat.le_of_ble_eq_true rfl), (Nat.le_of_ble_eq_true rfl)⟩ rfl (Nat.le_of_ble_eq_true rfl) rfl rfl rfl (Nat.le_of_ble_eq_true rfl) dX5_ringOf_42 ?_
      obtain ⟨r6, hc5, hf⟩ := g_bind hf
      refine g_callSi C (mX5_has l0 D0 K0 h σ p3 r4 hc5) gX5_ringOf_X5_has rfl rfl rfl ddX5_has ⟨(Nat.le_of_ble_eq_true rfl), (Nat.le_of_ble_eq_true rfl)⟩ rfl rfl (Nat.le_of_ble_eq_true rfl) dX5_ringOf_45 ?_
      refine g_join (P := fun j => ∀ (y8 : Int32), j y8 = some r → G wM h X 64 [(0, .ref (h 0)), (1, .int p1), (2, .int p2), (3, .int p3), (4, .int p4), (6, .int v6)] [.int y8, .int v5] σ) hf (fun y8 hf => ?_) (fun j7 hj7 hf => ?_)
      · refine g_ior C dX5_ringOf_64 ?_
        refine g_leti hf (fun x9 hf => ?_)
        refine g_istore C [1, 2, 3, 4, 5, 0, 6] dX5_ringOf_65 (Nat.le_of_ble_eq_true rfl) rfl ?_
        refine g_iinc C 6 [1, 2, 3, 4, 5, 6, 0] dX5_ringOf_67 rfl ic_1 (Nat.le_of_ble_eq_true rfl) rfl ?_
        refine g_goto (tgt := 26) C dX5_ringOf_70 (by decide) ?_
        exact ih x9 (v6 + (1 : Int32)) hf
      · refine g_if_eq (tgt := 63) hf C dX5_ringOf_48 (by decide) (fun hf => ?_) (fun hf => ?_)
        · refine g_iconst C dX5_ringOf_63 ic_0 ?_
          refine g_lv [0, 1, 2, 3, 4, 6] rfl ?_
          exact hj7 (0 : Int32) hf
        · refine g_iconst C dX5_ringOf_51 ic_1 ?_
          refine g_aload_n C 0 dX5_ringOf_52 rfl rfl ?_
          refine g_iload C 6 dX5_ringOf_53 rfl ?_
          refine g_iconst C dX5_ringOf_55 ic_1 ?_
          obtain ⟨r11, hc10, hf⟩ := g_bind hf
          refine g_callVi C (mX5_debtAt l0 D0 K0 h σ v6 (1 : Int32) hc10) gX5_ringOf_X5_debtAt rfl rfl rfl ddX5_debtAt ⟨(Nat.le_of_ble_eq_true rfl), (Nat.le_of_ble_eq_true rfl)⟩ rfl (Nat.le_of_ble_eq_true rfl) rfl rfl rfl (Nat.le_of_ble_eq_true rfl) dX5_ringOf_56 ?_
          refine g_ishl C dX5_ringOf_59 ?_
          refine g_goto (tgt := 64) C dX5_ringOf_60 (by decide) ?_
          refine g_lv [0, 1, 2, 3, 4, 6] rfl ?_
          exact hj7 ((1 : Int32) <<< (r11 &&& 31)) hf
set_option maxHeartbeats 4000000 in
set_option maxRecDepth 100000 in
theorem lX5_ringOf_11_ok {h : Nat → Nat} {X : Cx} {l0 : Launch} {D0 : va_G} {K0 : Nat → ClassId} (σ : pS) (p1 : Int32) {k103 : Option Int32} {r : Int32} (C : Cok wM h X l0 ({ frames := 1, cells := 0, slots := 0, locals := 22 } : Room) D0 K0 cX5_ringOf 7 RX5 wsX5_ringOf) (hret : ∀ (pc : Nat) (lv' : List (Nat × Value)), decode cX5_ringOf pc = .ok (.ireturn, 1) → G wM h X pc lv' [.int r] σ) (hk103 :  k103 = some r → G wM h X 103 [] [] σ) : ∀ (F : Nat) (v2 : Int32) (v3 : Int32) (v4 : Int32), lX5_ringOf_11 σ p1 k103 F v2 v3 v4 = some r → G wM h X 11 [(0, .ref (h 0)), (1, .int p1), (2, .int v2), (3, .int v3), (4, .int v4)] [] σ := by
  intro F
  induction F with
  | zero => intro v2 v3 v4 hf; exact absurd hf (by simp [lX5_ringOf_11])
  | succ F ih =>
    intro v2 v3 v4 hf
    rw [lX5_ringOf_11.eq_2] at hf
    refine g_iload C 4 dX5_ringOf_11 rfl ?_
    refine g_aload_n C 0 dX5_ringOf_13 rfl rfl ?_
    refine g_getI C in_X5_ringOf_X5 (k := 10) lk_X5_ringOf_0 rfl (Nat.le_of_ble_eq_true rfl) rfl (Nat.le_of_ble_eq_true rfl) rfl dX5_ringOf_14 ?_
    refine g_icmp_gt (tgt := 103) hf C dX5_ringOf_17 (by decide) (fun hf => ?_) (fun hf => ?_)
    · refine g_lv [] rfl ?_
      exact hk103 hf
    · refine g_iconst C dX5_ringOf_20 ic_0 ?_
      refine g_istore C [1, 2, 3, 4, 5, 0] dX5_ringOf_21 (Nat.le_of_ble_eq_true rfl) rfl ?_
      refine g_iconst C dX5_ringOf_23 ic_0 ?_
      refine g_istore C [1, 2, 3, 4, 5, 6, 0] dX5_ringOf_24 (Nat.le_of_ble_eq_true rfl) rfl ?_
      refine lX5_ringOf_26_ok σ p1 v2 v3 v4 C hret (fun y12 hf => ?_) FU (0 : Int32) (0 : Int32) hf
      refine g_iload C 4 dX5_ringOf_73 rfl ?_
      refine g_iload_n C 1 dX5_ringOf_75 rfl rfl ?_
      obtain ⟨r14, hc13, hf⟩ := g_bind hf
      refine g_callSi C (mX5_has l0 D0 K0 h σ y12 p1 hc13) gX5_ringOf_X5_has rfl rfl rfl ddX5_has ⟨(Nat.le_of_ble_eq_true rfl), (Nat.le_of_ble_eq_true rfl)⟩ rfl rfl (Nat.le_of_ble_eq_true rfl) dX5_ringOf_76 ?_
      refine g_if_eq (tgt := 85) hf C dX5_ringOf_79 (by decide) (fun hf => ?_) (fun hf => ?_)
      · refine g_iload C 4 dX5_ringOf_85 rfl ?_
        refine g_iload_n C 2 dX5_ringOf_87 rfl rfl ?_
        refine g_iconst C dX5_ringOf_88 ic_m1 ?_
        refine g_ixor C dX5_ringOf_89 ?_
        refine g_iand C dX5_ringOf_90 ?_
        refine g_leti hf (fun x15 hf => ?_)
        refine g_istore_n C [1, 2, 3, 0, 4, 5] dX5_ringOf_91 rfl (Nat.le_of_ble_eq_true rfl) rfl ?_
        refine g_iload_n C 2 dX5_ringOf_92 rfl rfl ?_
        refine g_iload C 5 dX5_ringOf_93 rfl ?_
        refine g_ior C dX5_ringOf_95 ?_
        refine g_leti hf (fun x16 hf => ?_)
        refine g_istore_n C [1, 2, 0, 3, 4] dX5_ringOf_96 rfl (Nat.le_of_ble_eq_true rfl) rfl ?_
        refine g_iinc C 4 [1, 2, 3, 4, 0] dX5_ringOf_97 rfl ic_1 (Nat.le_of_ble_eq_true rfl) rfl ?_
        refine g_goto (tgt := 11) C dX5_ringOf_100 (by decide) ?_
        exact ih x16 x15 (v4 + (1 : Int32)) hf
      · refine g_iload C 3 dX5_ringOf_82 rfl ?_
        exact g_reti hf hret dX5_ringOf_84
set_option maxHeartbeats 4000000 in
set_option maxRecDepth 100000 in
theorem mX5_ringOf (l0 : Launch) (D0 : va_G) (K0 : Nat → ClassId) (h : Nat → Nat) (σ : pS) (a1 : Int32) {r : Int32} (hf : fX5_ringOf σ a1 = some r) : Met l0 yX5_ringOf wsX5_ringOf ({ frames := 1, cells := 0, slots := 0, locals := 22 } : Room) (va_Pc [.ref (h 0), .int a1] (pIn wM D0 K0 h σ)) (va_Qi (fun r' u' => r' = r ∧ u' = σ) (pOut wM D0 K0 h) (pA wM h)) 0 0 (pA wM h) := by
  refine p_metI (lv := [(0, .ref (h 0)), (1, .int a1)]) (by decide +kernel) rfl rfl (Nat.le_of_ble_eq_true rfl) rfl (fun X C hret => ?_)
  unfold fX5_ringOf at hf
  refine g_iconst C dX5_ringOf_0 ic_1 ?_
  refine g_iload_n C 1 dX5_ringOf_1 rfl rfl ?_
  refine g_ishl C dX5_ringOf_2 ?_
  refine g_leti hf (fun x1 hf => ?_)
  refine g_istore_n C [1, 2, 0] dX5_ringOf_3 rfl (Nat.le_of_ble_eq_true rfl) rfl ?_
  refine g_iconst C dX5_ringOf_4 ic_1 ?_
  refine g_iload_n C 1 dX5_ringOf_5 rfl rfl ?_
  refine g_ishl C dX5_ringOf_6 ?_
  refine g_leti hf (fun x2 hf => ?_)
  refine g_istore_n C [1, 2, 3, 0] dX5_ringOf_7 rfl (Nat.le_of_ble_eq_true rfl) rfl ?_
  refine g_iconst C dX5_ringOf_8 ic_1 ?_
  refine g_istore C [1, 2, 3, 4, 0] dX5_ringOf_9 (Nat.le_of_ble_eq_true rfl) rfl ?_
  refine lX5_ringOf_11_ok σ a1 C hret (fun hf => ?_) FU x1 x2 (1 : Int32) hf
  refine g_iconst C dX5_ringOf_103 ic_0 ?_
  exact g_reti hf hret dX5_ringOf_104
/-! X5_rings -/
theorem in_X5_rings_X5 : ∀ q ∈ u_ws RX5 TX5 30, q ∈ wsX5_rings := by decide +kernel
theorem lk_X5_rings_0 : Cond.fieldLink RX5 140 "EmptyHouseModel" "n" "I" ∈ wsX5_rings := by decide +kernel
theorem ddX5_rings : yX5_rings.cls = RX5 ∧ yX5_rings.cls ≠ "java/lang/invoke/MethodHandle" ∧ yX5_rings.cls ≠ "java/lang/invoke/VarHandle" ∧ (parseMethodDescriptor yX5_rings.desc).map (fun d => d.parameters.length) = some 0 := by decide +kernel
set_option maxHeartbeats 4000000 in
set_option maxRecDepth 100000 in
theorem lX5_rings_6_ok {h : Nat → Nat} {X : Cx} {l0 : Launch} {D0 : va_G} {K0 : Nat → ClassId} (σ : pS) {k64 : Int32 → Int32 → Option (Int32 × pS)} {r : Int32} {u : pS} (C : Cok wM h X l0 ({ frames := 2, cells := 0, slots := 0, locals := 48 } : Room) D0 K0 cX5_rings 5 RX5 wsX5_rings) (hret : ∀ (pc : Nat) (lv' : List (Nat × Value)), decode cX5_rings pc = .ok (.ireturn, 1) → G wM h X pc lv' [.int r] u) (hk64 : ∀ (z1 : Int32) (z2 : Int32), k64 z1 z2 = some (r, u) → G wM h X 64 [(0, .ref (h 0)), (1, .int z1), (2, .int z2)] [] σ) : ∀ (F : Nat) (v1 : Int32) (v2 : Int32) (v3 : Int32), lX5_rings_6 σ k64 F v1 v2 v3 = some (r, u) → G wM h X 6 [(0, .ref (h 0)), (1, .int v1), (2, .int v2), (3, .int v3)] [] σ := by
  intro F
  induction F with
  | zero => intro v1 v2 v3 hf; exact absurd hf (by simp [lX5_rings_6])
  | succ F ih =>
    intro v1 v2 v3 hf
    rw [lX5_rings_6.eq_2] at hf
    refine g_iload_n C 3 dX5_rings_6 rfl rfl ?_
    refine g_aload_n C 0 dX5_rings_7 rfl rfl ?_
    refine g_getI C in_X5_rings_X5 (k := 10) lk_X5_rings_0 rfl (Nat.le_of_ble_eq_true rfl) rfl (Nat.le_of_ble_eq_true rfl) rfl dX5_rings_8 ?_
    refine g_icmp_ge (tgt := 64) hf C dX5_rings_11 (by decide) (fun hf => ?_) (fun hf => ?_)
    · refine g_lv [0, 1, 2] rfl ?_
      exact hk64 v1 v2 hf
    · refine g_aload_n C 0 dX5_rings_14 rfl rfl ?_
      refine g_iload_n C 3 dX5_rings_15 rfl rfl ?_
      obtain ⟨r2, hc1, hf⟩ := g_bind hf
      refine g_callVi C (mX5_ringOf l0 D0 K0 h σ v3 hc1) gX5_rings_X5_ringOf rfl rfl rfl ddX5_ringOf ⟨(Nat.le_of_ble_eq_true rfl), (Nat.le_of_ble_eq_true rfl)⟩ rfl (Nat.le_of_ble_eq_true rfl) rfl rfl rfl (Nat.le_of_ble_eq_true rfl) dX5_rings_16 ?_
      refine g_istore C [1, 2, 3, 4, 0] dX5_rings_19 (Nat.le_of_ble_eq_true rfl) rfl ?_
      refine g_iload_n C 1 dX5_rings_21 rfl rfl ?_
      refine g_iload C 4 dX5_rings_22 rfl ?_
      refine g_join (P := fun j => ∀ (y4 : Int32), j y4 = some (r, u) → G wM h X 34 [(0, .ref (h 0)), (2, .int v2), (3, .int v3), (4, .int r2)] [.int y4, .int v1] σ) hf (fun y4 hf => ?_) (fun j3 hj3 hf => ?_)
      · refine g_ior C dX5_rings_34 ?_
        refine g_leti hf (fun x5 hf => ?_)
        refine g_istore_n C [1, 0, 2, 3, 4] dX5_rings_35 rfl (Nat.le_of_ble_eq_true rfl) rfl ?_
        refine g_iload C 4 dX5_rings_36 rfl ?_
        refine g_join (P := fun j => j = some (r, u) → G wM h X 56 [(0, .ref (h 0)), (1, .int x5), (2, .int v2), (3, .int v3)] [] σ) hf (fun hf => ?_) (fun j6 hj6 hf => ?_)
        · refine g_iload_n C 2 dX5_rings_56 rfl rfl ?_
          refine g_istore_n C [1, 2, 0, 3] dX5_rings_57 rfl (Nat.le_of_ble_eq_true rfl) rfl ?_
          refine g_iinc C 3 [1, 2, 3, 0] dX5_rings_58 rfl ic_1 (Nat.le_of_ble_eq_true rfl) rfl ?_
          refine g_goto (tgt := 6) C dX5_rings_61 (by decide) ?_
          exact ih x5 v2 (v3 + (1 : Int32)) hf
        · refine g_if_le (tgt := 56) hf C dX5_rings_38 (by decide) (fun hf => ?_) (fun hf => ?_)
          · refine g_lv [0, 1, 2, 3] rfl ?_
            exact hj6 hf
          · refine g_iload_n C 2 dX5_rings_41 rfl rfl ?_
            refine g_join (P := fun j => j = some (r, u) → G wM h X 51 [(0, .ref (h 0)), (1, .int x5), (3, .int v3), (4, .int r2)] [] σ) hf (fun hf => ?_) (fun j7 hj7 hf => ?_)
            · refine g_iload C 3 dX5_rings_51 rfl ?_
              refine g_goto (tgt := 57) C dX5_rings_53 (by decide) ?_
              refine g_istore_n C [1, 2, 0, 3] dX5_rings_57 rfl (Nat.le_of_ble_eq_true rfl) rfl ?_
              refine g_iinc C 3 [1, 2, 3, 0] dX5_rings_58 rfl ic_1 (Nat.le_of_ble_eq_true rfl) rfl ?_
              refine g_goto (tgt := 6) C dX5_rings_61 (by decide) ?_
              exact ih x5 r2 (v3 + (1 : Int32)) hf
            · refine g_if_eq (tgt := 51) hf C dX5_rings_42 (by decide) (fun hf => ?_) (fun hf => ?_)
              · refine g_lv [0, 1, 3, 4] rfl ?_
                exact hj7 hf
              · refine g_iload C 4 dX5_rings_45 rfl ?_
                refine g_iload_n C 2 dX5_rings_47 rfl rfl ?_
                refine g_icmp_ge (tgt := 56) hf C dX5_rings_48 (by decide) (fun hf => ?_) (fun hf => ?_)
                · refine g_lv [0, 1, 2, 3] rfl ?_
                  exact hj6 hf
                · refine g_lv [0, 1, 3, 4] rfl ?_
                  exact hj7 hf
      · refine g_if_le (tgt := 33) hf C dX5_rings_24 (by decide) (fun hf => ?_) (fun hf => ?_)
        · refine g_iconst C dX5_rings_33 ic_0 ?_
          refine g_lv [0, 2, 3, 4] rfl ?_
          exact hj3 (0 : Int32) hf
        · refine g_iconst C dX5_rings_27 ic_1 ?_
          refine g_iload_n C 3 dX5_rings_28 rfl rfl ?_
          refine g_ishl C dX5_rings_29 ?_
          refine g_goto (tgt := 34) C dX5_rings_30 (by decide) ?_
          refine g_lv [0, 2, 3, 4] rfl ?_
          exact hj3 ((1 : Int32) <<< (v3 &&& 31)) hf
set_option maxHeartbeats 4000000 in
set_option maxRecDepth 100000 in
theorem mX5_rings (l0 : Launch) (D0 : va_G) (K0 : Nat → ClassId) (h : Nat → Nat) (σ : pS)  {r : Int32} {u : pS} (hf : fX5_rings σ = some (r, u)) : Met l0 yX5_rings wsX5_rings ({ frames := 2, cells := 0, slots := 0, locals := 48 } : Room) (va_Pc [.ref (h 0)] (pIn wM D0 K0 h σ)) (va_Qi (fun r' u' => r' = r ∧ u' = u) (pOut wM D0 K0 h) (pA wM h)) 0 0 (pA wM h) := by
  refine p_metI (lv := [(0, .ref (h 0))]) (by decide +kernel) rfl rfl (Nat.le_of_ble_eq_true rfl) rfl (fun X C hret => ?_)
  unfold fX5_rings at hf
  refine g_iconst C dX5_rings_0 ic_0 ?_
  refine g_istore_n C [1, 0] dX5_rings_1 rfl (Nat.le_of_ble_eq_true rfl) rfl ?_
  refine g_iconst C dX5_rings_2 ic_0 ?_
  refine g_istore_n C [1, 2, 0] dX5_rings_3 rfl (Nat.le_of_ble_eq_true rfl) rfl ?_
  refine g_iconst C dX5_rings_4 ic_0 ?_
  refine g_istore_n C [1, 2, 3, 0] dX5_rings_5 rfl (Nat.le_of_ble_eq_true rfl) rfl ?_
  refine lX5_rings_6_ok σ C hret (fun y8 y9 hf => ?_) FU (0 : Int32) (0 : Int32) (0 : Int32) hf
  refine g_aload_n C 0 dX5_rings_64 rfl rfl ?_
  refine g_iload_n C 2 dX5_rings_65 rfl rfl ?_
  refine g_iload_n C 1 dX5_rings_66 rfl rfl ?_
  obtain ⟨r11, σ12, hc10, hf⟩ := g_pbind hf
  refine g_callVi C (mX5_tells l0 D0 K0 h σ y9 y8 hc10) gX5_rings_X5_tells rfl rfl rfl ddX5_tells ⟨(Nat.le_of_ble_eq_true rfl), (Nat.le_of_ble_eq_true rfl)⟩ rfl (Nat.le_of_ble_eq_true rfl) rfl rfl rfl (Nat.le_of_ble_eq_true rfl) dX5_rings_67 ?_
  exact g_retiW hf hret dX5_rings_70
/-! X5_keepHabits -/
theorem in_X5_keepHabits_X5 : ∀ q ∈ u_ws RX5 TX5 30, q ∈ wsX5_keepHabits := by decide +kernel
theorem lk_X5_keepHabits_0 : Cond.fieldLink RX5 140 "EmptyHouseModel" "n" "I" ∈ wsX5_keepHabits := by decide +kernel
theorem lk_X5_keepHabits_1 : Cond.fieldLink RX5 55 "EmptyHouseModel" "habits" "[I" ∈ wsX5_keepHabits := by decide +kernel
theorem lk_X5_keepHabits_2 : Cond.fieldLink RX5 29 "EmptyHouseModel" "people" "[I" ∈ wsX5_keepHabits := by decide +kernel
theorem ddX5_keepHabits : yX5_keepHabits.cls = RX5 ∧ yX5_keepHabits.cls ≠ "java/lang/invoke/MethodHandle" ∧ yX5_keepHabits.cls ≠ "java/lang/invoke/VarHandle" ∧ (parseMethodDescriptor yX5_keepHabits.desc).map (fun d => d.parameters.length) = some 0 := by decide +kernel
set_option maxHeartbeats 4000000 in
set_option maxRecDepth 100000 in
theorem lX5_keepHabits_2_ok {h : Nat → Nat} {X : Cx} {l0 : Launch} {D0 : va_G} {K0 : Nat → ClassId} {k32 : pS → Option (Unit × pS)} {r : Unit} {u : pS} (C : Cok wM h X l0 ({ frames := 0, cells := 0, slots := 0, locals := 0 } : Room) D0 K0 cX5_keepHabits 2 RX5 wsX5_keepHabits) (hret : ∀ (pc : Nat) (lv' : List (Nat × Value)), decode cX5_keepHabits pc = .ok (.return_, 1) → G wM h X pc lv' [] u) (hk32 : ∀  (σ : pS), k32 σ = some (r, u) → G wM h X 32 [] [] σ) : ∀ (F : Nat) (v1 : Int32) (σ : pS), lX5_keepHabits_2 k32 F v1 σ = some (r, u) → G wM h X 2 [(0, .ref (h 0)), (1, .int v1)] [] σ := by
  intro F
  induction F with
  | zero => intro v1 σ hf; exact absurd hf (by simp [lX5_keepHabits_2])
  | succ F ih =>
    intro v1 σ hf
    rw [lX5_keepHabits_2.eq_2] at hf
    refine g_iload_n C 1 dX5_keepHabits_2 rfl rfl ?_
    refine g_aload_n C 0 dX5_keepHabits_3 rfl rfl ?_
    refine g_getI C in_X5_keepHabits_X5 (k := 10) lk_X5_keepHabits_0 rfl (Nat.le_of_ble_eq_true rfl) rfl (Nat.le_of_ble_eq_true rfl) rfl dX5_keepHabits_4 ?_
    refine g_icmp_ge (tgt := 32) hf C dX5_keepHabits_7 (by decide) (fun hf => ?_) (fun hf => ?_)
    · refine g_lv [] rfl ?_
      exact hk32 σ hf
    · refine g_aload_n C 0 dX5_keepHabits_10 rfl rfl ?_
      refine g_getC (n := 15) C in_X5_keepHabits_X5 (k := 26) lk_X5_keepHabits_1 rfl (Nat.le_of_ble_eq_true rfl) rfl (Nat.le_of_ble_eq_true rfl) rfl dX5_keepHabits_11 ?_
      refine g_iload_n C 1 dX5_keepHabits_14 rfl rfl ?_
      refine g_aload_n C 0 dX5_keepHabits_15 rfl rfl ?_
      refine g_getC (n := 7) C in_X5_keepHabits_X5 (k := 11) lk_X5_keepHabits_2 rfl (Nat.le_of_ble_eq_true rfl) rfl (Nat.le_of_ble_eq_true rfl) rfl dX5_keepHabits_16 ?_
      refine g_iconst C dX5_keepHabits_19 ic_4 ?_
      refine g_iload_n C 1 dX5_keepHabits_20 rfl rfl ?_
      refine g_imul C dX5_keepHabits_21 ?_
      refine g_iconst C dX5_keepHabits_22 ic_2 ?_
      refine g_iadd C dX5_keepHabits_23 ?_
      refine g_iald hf C rfl (Nat.le_of_ble_eq_true rfl) dX5_keepHabits_24 (fun hf => ?_)
      refine g_iast hf C rfl (Nat.le_of_ble_eq_true rfl) dX5_keepHabits_25 (fun hf => ?_)
      refine g_lets hf (fun σ1 hf => ?_)
      refine g_iinc C 1 [1, 0] dX5_keepHabits_26 rfl ic_1 (Nat.le_of_ble_eq_true rfl) rfl ?_
      refine g_goto (tgt := 2) C dX5_keepHabits_29 (by decide) ?_
      exact ih (v1 + (1 : Int32)) σ1 hf
set_option maxHeartbeats 4000000 in
set_option maxRecDepth 100000 in
theorem mX5_keepHabits (l0 : Launch) (D0 : va_G) (K0 : Nat → ClassId) (h : Nat → Nat) (σ : pS)  {r : Unit} {u : pS} (hf : fX5_keepHabits σ = some (r, u)) : Met l0 yX5_keepHabits wsX5_keepHabits ({ frames := 0, cells := 0, slots := 0, locals := 0 } : Room) (va_Pc [.ref (h 0)] (pIn wM D0 K0 h σ)) (va_Qv (fun u' => u' = u) (pOut wM D0 K0 h) (pA wM h)) 0 0 (pA wM h) := by
  refine p_metV (lv := [(0, .ref (h 0))]) (by decide +kernel) rfl rfl (Nat.le_of_ble_eq_true rfl) rfl (fun X C hret => ?_)
  unfold fX5_keepHabits at hf
  refine g_iconst C dX5_keepHabits_0 ic_0 ?_
  refine g_istore_n C [1, 0] dX5_keepHabits_1 rfl (Nat.le_of_ble_eq_true rfl) rfl ?_
  refine lX5_keepHabits_2_ok  C hret (fun σ2 hf => ?_) FU (0 : Int32) σ hf
  exact g_retvW hf hret dX5_keepHabits_32
/-! X5_backHabits -/
theorem in_X5_backHabits_X5 : ∀ q ∈ u_ws RX5 TX5 30, q ∈ wsX5_backHabits := by decide +kernel
theorem lk_X5_backHabits_0 : Cond.fieldLink RX5 140 "EmptyHouseModel" "n" "I" ∈ wsX5_backHabits := by decide +kernel
theorem lk_X5_backHabits_1 : Cond.fieldLink RX5 29 "EmptyHouseModel" "people" "[I" ∈ wsX5_backHabits := by decide +kernel
theorem lk_X5_backHabits_2 : Cond.fieldLink RX5 55 "EmptyHouseModel" "habits" "[I" ∈ wsX5_backHabits := by decide +kernel
theorem ddX5_backHabits : yX5_backHabits.cls = RX5 ∧ yX5_backHabits.cls ≠ "java/lang/invoke/MethodHandle" ∧ yX5_backHabits.cls ≠ "java/lang/invoke/VarHandle" ∧ (parseMethodDescriptor yX5_backHabits.desc).map (fun d => d.parameters.length) = some 0 := by decide +kernel
set_option maxHeartbeats 4000000 in
set_option maxRecDepth 100000 in
theorem lX5_backHabits_2_ok {h : Nat → Nat} {X : Cx} {l0 : Launch} {D0 : va_G} {K0 : Nat → ClassId} {k32 : pS → Option (Unit × pS)} {r : Unit} {u : pS} (C : Cok wM h X l0 ({ frames := 0, cells := 0, slots := 0, locals := 0 } : Room) D0 K0 cX5_backHabits 2 RX5 wsX5_backHabits) (hret : ∀ (pc : Nat) (lv' : List (Nat × Value)), decode cX5_backHabits pc = .ok (.return_, 1) → G wM h X pc lv' [] u) (hk32 : ∀  (σ : pS), k32 σ = some (r, u) → G wM h X 32 [] [] σ) : ∀ (F : Nat) (v1 : Int32) (σ : pS), lX5_backHabits_2 k32 F v1 σ = some (r, u) → G wM h X 2 [(0, .ref (h 0)), (1, .int v1)] [] σ := by
  intro F
  induction F with
  | zero => intro v1 σ hf; exact absurd hf (by simp [lX5_backHabits_2])
  | succ F ih =>
    intro v1 σ hf
    rw [lX5_backHabits_2.eq_2] at hf
    refine g_iload_n C 1 dX5_backHabits_2 rfl rfl ?_
    refine g_aload_n C 0 dX5_backHabits_3 rfl rfl ?_
    refine g_getI C in_X5_backHabits_X5 (k := 10) lk_X5_backHabits_0 rfl (Nat.le_of_ble_eq_true rfl) rfl (Nat.le_of_ble_eq_true rfl) rfl dX5_backHabits_4 ?_
    refine g_icmp_ge (tgt := 32) hf C dX5_backHabits_7 (by decide) (fun hf => ?_) (fun hf => ?_)
    · refine g_lv [] rfl ?_
      exact hk32 σ hf
    · refine g_aload_n C 0 dX5_backHabits_10 rfl rfl ?_
      refine g_getC (n := 7) C in_X5_backHabits_X5 (k := 11) lk_X5_backHabits_1 rfl (Nat.le_of_ble_eq_true rfl) rfl (Nat.le_of_ble_eq_true rfl) rfl dX5_backHabits_11 ?_
      refine g_iconst C dX5_backHabits_14 ic_4 ?_
      refine g_iload_n C 1 dX5_backHabits_15 rfl rfl ?_
      refine g_imul C dX5_backHabits_16 ?_
      refine g_iconst C dX5_backHabits_17 ic_2 ?_
      refine g_iadd C dX5_backHabits_18 ?_
      refine g_aload_n C 0 dX5_backHabits_19 rfl rfl ?_
      refine g_getC (n := 15) C in_X5_backHabits_X5 (k := 26) lk_X5_backHabits_2 rfl (Nat.le_of_ble_eq_true rfl) rfl (Nat.le_of_ble_eq_true rfl) rfl dX5_backHabits_20 ?_
      refine g_iload_n C 1 dX5_backHabits_23 rfl rfl ?_
      refine g_iald hf C rfl (Nat.le_of_ble_eq_true rfl) dX5_backHabits_24 (fun hf => ?_)
      refine g_iast hf C rfl (Nat.le_of_ble_eq_true rfl) dX5_backHabits_25 (fun hf => ?_)
      refine g_lets hf (fun σ1 hf => ?_)
      refine g_iinc C 1 [1, 0] dX5_backHabits_26 rfl ic_1 (Nat.le_of_ble_eq_true rfl) rfl ?_
      refine g_goto (tgt := 2) C dX5_backHabits_29 (by decide) ?_
      exact ih (v1 + (1 : Int32)) σ1 hf
set_option maxHeartbeats 4000000 in
set_option maxRecDepth 100000 in
theorem mX5_backHabits (l0 : Launch) (D0 : va_G) (K0 : Nat → ClassId) (h : Nat → Nat) (σ : pS)  {r : Unit} {u : pS} (hf : fX5_backHabits σ = some (r, u)) : Met l0 yX5_backHabits wsX5_backHabits ({ frames := 0, cells := 0, slots := 0, locals := 0 } : Room) (va_Pc [.ref (h 0)] (pIn wM D0 K0 h σ)) (va_Qv (fun u' => u' = u) (pOut wM D0 K0 h) (pA wM h)) 0 0 (pA wM h) := by
  refine p_metV (lv := [(0, .ref (h 0))]) (by decide +kernel) rfl rfl (Nat.le_of_ble_eq_true rfl) rfl (fun X C hret => ?_)
  unfold fX5_backHabits at hf
  refine g_iconst C dX5_backHabits_0 ic_0 ?_
  refine g_istore_n C [1, 0] dX5_backHabits_1 rfl (Nat.le_of_ble_eq_true rfl) rfl ?_
  refine lX5_backHabits_2_ok  C hret (fun σ2 hf => ?_) FU (0 : Int32) σ hf
  exact g_retvW hf hret dX5_backHabits_32
/-! X5_few -/
theorem in_X5_few_X5 : ∀ q ∈ u_ws RX5 TX5 30, q ∈ wsX5_few := by decide +kernel
theorem lk_X5_few_0 : Cond.fieldLink RX5 140 "EmptyHouseModel" "n" "I" ∈ wsX5_few := by decide +kernel
theorem lk_X5_few_1 : Cond.fieldLink RX5 29 "EmptyHouseModel" "people" "[I" ∈ wsX5_few := by decide +kernel
theorem ddX5_few : yX5_few.cls = RX5 ∧ yX5_few.cls ≠ "java/lang/invoke/MethodHandle" ∧ yX5_few.cls ≠ "java/lang/invoke/VarHandle" ∧ (parseMethodDescriptor yX5_few.desc).map (fun d => d.parameters.length) = some 2 := by decide +kernel
set_option maxHeartbeats 4000000 in
set_option maxRecDepth 100000 in
theorem lX5_few_28_ok {h : Nat → Nat} {X : Cx} {l0 : Launch} {D0 : va_G} {K0 : Nat → ClassId} (σ : pS) (p1 : Int32) (p2 : Int32) {k64 : Int32 → Option (Int32 × pS)} {r : Int32} {u : pS} (C : Cok wM h X l0 ({ frames := 7, cells := 0, slots := 0, locals := 157 } : Room) D0 K0 cX5_few 7 RX5 wsX5_few) (hret : ∀ (pc : Nat) (lv' : List (Nat × Value)), decode cX5_few pc = .ok (.ireturn, 1) → G wM h X pc lv' [.int r] u) (hk64 : ∀ (z3 : Int32), k64 z3 = some (r, u) → G wM h X 64 [(0, .ref (h 0)), (1, .int p1), (2, .int p2), (3, .int z3)] [] σ) : ∀ (F : Nat) (v3 : Int32) (v4 : Int32), lX5_few_28 σ p1 p2 k64 F v3 v4 = some (r, u) → G wM h X 28 [(0, .ref (h 0)), (1, .int p1), (2, .int p2), (3, .int v3), (4, .int v4)] [] σ := by
  intro F
  induction F with
  | zero => intro v3 v4 hf; exact absurd hf (by simp [lX5_few_28])
  | succ F ih =>
    intro v3 v4 hf
    rw [lX5_few_28.eq_2] at hf
    refine g_iload C 4 dX5_few_28 rfl ?_
    refine g_aload_n C 0 dX5_few_30 rfl rfl ?_
    refine g_getI C in_X5_few_X5 (k := 10) lk_X5_few_0 rfl (Nat.le_of_ble_eq_true rfl) rfl (Nat.le_of_ble_eq_true rfl) rfl dX5_few_31 ?_
    refine g_icmp_ge (tgt := 64) hf C dX5_few_34 (by decide) (fun hf => ?_) (fun hf => ?_)
    · refine g_lv [0, 1, 2, 3] rfl ?_
      exact hk64 v3 hf
    · refine g_iload_n C 3 dX5_few_37 rfl rfl ?_
      refine g_aload_n C 0 dX5_few_38 rfl rfl ?_
      refine g_iload C 4 dX5_few_39 rfl ?_
      refine g_iload_n C 1 dX5_few_41 rfl rfl ?_
      obtain ⟨r9, hc8, hf⟩ := g_bind hf
      refine g_callVi C (mX5_isOut l0 D0 K0 h σ v4 p1 hc8) gX5_few_X5_isOut rfl rfl rfl ddX5_isOut ⟨(Nat.le_of_ble_eq_true rfl), (Nat.le_of_ble_eq_true rfl)⟩ rfl (Nat.le_of_ble_eq_true rfl) rfl rfl rfl (Nat.le_of_ble_eq_true rfl) dX5_few_42 ?_
      refine g_join (P := fun j => ∀ (y11 : Int32), j y11 = some (r, u) → G wM h X 56 [(0, .ref (h 0)), (1, .int p1), (2, .int p2), (4, .int v4)] [.int y11, .int v3] σ) hf (fun y11 hf => ?_) (fun j10 hj10 hf => ?_)
      · refine g_ior C dX5_few_56 ?_
        refine g_leti hf (fun x12 hf => ?_)
        refine g_istore_n C [1, 2, 3, 0, 4] dX5_few_57 rfl (Nat.le_of_ble_eq_true rfl) rfl ?_
        refine g_iinc C 4 [1, 2, 3, 4, 0] dX5_few_58 rfl ic_1 (Nat.le_of_ble_eq_true rfl) rfl ?_
        refine g_goto (tgt := 28) C dX5_few_61 (by decide) ?_
        exact ih x12 (v4 + (1 : Int32)) hf
      · refine g_if_eq (tgt := 52) hf C dX5_few_45 (by decide) (fun hf => ?_) (fun hf => ?_)
        · refine g_iconst C dX5_few_52 ic_1 ?_
          refine g_iload C 4 dX5_few_53 rfl ?_
          refine g_ishl C dX5_few_55 ?_
          refine g_lv [0, 1, 2, 4] rfl ?_
          exact hj10 ((1 : Int32) <<< (v4 &&& 31)) hf
        · refine g_iconst C dX5_few_48 ic_0 ?_
          refine g_goto (tgt := 56) C dX5_few_49 (by decide) ?_
          refine g_lv [0, 1, 2, 4] rfl ?_
          exact hj10 (0 : Int32) hf
set_option maxHeartbeats 4000000 in
set_option maxRecDepth 100000 in
theorem lX5_few_114_ok {h : Nat → Nat} {X : Cx} {l0 : Launch} {D0 : va_G} {K0 : Nat → ClassId} (p1 : Int32) (p2 : Int32) (p3 : Int32) (p4 : Int32) (p5 : Int32) {k160 : pS → Option (Int32 × pS)} {r : Int32} {u : pS} (C : Cok wM h X l0 ({ frames := 7, cells := 0, slots := 0, locals := 157 } : Room) D0 K0 cX5_few 7 RX5 wsX5_few) (hret : ∀ (pc : Nat) (lv' : List (Nat × Value)), decode cX5_few pc = .ok (.ireturn, 1) → G wM h X pc lv' [.int r] u) (hk160 : ∀  (σ : pS), k160 σ = some (r, u) → G wM h X 160 [(0, .ref (h 0)), (1, .int p1), (2, .int p2), (3, .int p3), (4, .int p4), (5, .int p5)] [] σ) : ∀ (F : Nat) (v6 : Int32) (σ : pS), lX5_few_114 p1 p2 p3 p4 p5 k160 F v6 σ = some (r, u) → G wM h X 114 [(0, .ref (h 0)), (1, .int p1), (2, .int p2), (3, .int p3), (4, .int p4), (5, .int p5), (6, .int v6)] [] σ := by
  intro F
  induction F with
  | zero => intro v6 σ hf; exact absurd hf (by simp [lX5_few_114])
  | succ F ih =>
    intro v6 σ hf
    rw [lX5_few_114.eq_2] at hf
    refine g_iload C 6 dX5_few_114 rfl ?_
    refine g_aload_n C 0 dX5_few_116 rfl rfl ?_
    refine g_getI C in_X5_few_X5 (k := 10) lk_X5_few_0 rfl (Nat.le_of_ble_eq_true rfl) rfl (Nat.le_of_ble_eq_true rfl) rfl dX5_few_117 ?_
    refine g_icmp_ge (tgt := 160) hf C dX5_few_120 (by decide) (fun hf => ?_) (fun hf => ?_)
    · refine g_lv [0, 1, 2, 3, 4, 5] rfl ?_
      exact hk160 σ hf
    · refine g_aload_n C 0 dX5_few_123 rfl rfl ?_
      refine g_getC (n := 7) C in_X5_few_X5 (k := 11) lk_X5_few_1 rfl (Nat.le_of_ble_eq_true rfl) rfl (Nat.le_of_ble_eq_true rfl) rfl dX5_few_124 ?_
      refine g_iconst C dX5_few_127 ic_4 ?_
      refine g_iload C 6 dX5_few_128 rfl ?_
      refine g_imul C dX5_few_130 ?_
      refine g_iconst C dX5_few_131 ic_2 ?_
      refine g_iadd C dX5_few_132 ?_
      refine g_dup2 C dX5_few_133 rfl rfl ?_
      refine g_iald hf C rfl (Nat.le_of_ble_eq_true rfl) dX5_few_134 (fun hf => ?_)
      refine g_iload C 5 dX5_few_135 rfl ?_
      refine g_iload C 6 dX5_few_137 rfl ?_
      obtain ⟨r16, hc15, hf⟩ := g_bind hf
      refine g_callSi C (mX5_has l0 D0 K0 h σ p5 v6 hc15) gX5_few_X5_has rfl rfl rfl ddX5_has ⟨(Nat.le_of_ble_eq_true rfl), (Nat.le_of_ble_eq_true rfl)⟩ rfl rfl (Nat.le_of_ble_eq_true rfl) dX5_few_139 ?_
      refine g_join (P := fun j => ∀ (y18 : Int32), j y18 = some (r, u) → G wM h X 152 [(0, .ref (h 0)), (1, .int p1), (2, .int p2), (3, .int p3), (4, .int p4), (5, .int p5), (6, .int v6)] [.int y18, .int (pI σ 7 ((((4 : Int32) * v6) + (2 : Int32))).toNatClampNeg), .int (((4 : Int32) * v6) + (2 : Int32)), .ref (h 7)] σ) hf (fun y18 hf => ?_) (fun j17 hj17 hf => ?_)
      · refine g_ior C dX5_few_152 ?_
        refine g_iast hf C rfl (Nat.le_of_ble_eq_true rfl) dX5_few_153 (fun hf => ?_)
        refine g_lets hf (fun σ19 hf => ?_)
        refine g_iinc C 6 [1, 2, 3, 4, 5, 6, 0] dX5_few_154 rfl ic_1 (Nat.le_of_ble_eq_true rfl) rfl ?_
        refine g_goto (tgt := 114) C dX5_few_157 (by decide) ?_
        exact ih (v6 + (1 : Int32)) σ19 hf
      · refine g_if_eq (tgt := 151) hf C dX5_few_142 (by decide) (fun hf => ?_) (fun hf => ?_)
        · refine g_iconst C dX5_few_151 ic_0 ?_
          exact hj17 (0 : Int32) hf
        · refine g_iconst C dX5_few_145 ic_1 ?_
          refine g_iload_n C 1 dX5_few_146 rfl rfl ?_
          refine g_ishl C dX5_few_147 ?_
          refine g_goto (tgt := 152) C dX5_few_148 (by decide) ?_
          exact hj17 ((1 : Int32) <<< (p1 &&& 31)) hf
set_option maxHeartbeats 4000000 in
set_option maxRecDepth 100000 in
theorem lX5_few_71_ok {h : Nat → Nat} {X : Cx} {l0 : Launch} {D0 : va_G} {K0 : Nat → ClassId} (p1 : Int32) (p2 : Int32) (p3 : Int32) {k188 : Int32 → pS → Option (Int32 × pS)} {r : Int32} {u : pS} (C : Cok wM h X l0 ({ frames := 7, cells := 0, slots := 0, locals := 157 } : Room) D0 K0 cX5_few 7 RX5 wsX5_few) (hret : ∀ (pc : Nat) (lv' : List (Nat × Value)), decode cX5_few pc = .ok (.ireturn, 1) → G wM h X pc lv' [.int r] u) (hk188 : ∀ (z4 : Int32) (σ : pS), k188 z4 σ = some (r, u) → G wM h X 188 [(0, .ref (h 0)), (4, .int z4)] [] σ) : ∀ (F : Nat) (v4 : Int32) (v5 : Int32) (σ : pS), lX5_few_71 p1 p2 p3 k188 F v4 v5 σ = some (r, u) → G wM h X 71 [(0, .ref (h 0)), (1, .int p1), (2, .int p2), (3, .int p3), (4, .int v4), (5, .int v5)] [] σ := by
  intro F
  induction F with
  | zero => intro v4 v5 σ hf; exact absurd hf (by simp [lX5_few_71])
  | succ F ih =>
    intro v4 v5 σ hf
    rw [lX5_few_71.eq_2] at hf
    refine g_iload C 5 dX5_few_71 rfl ?_
    refine g_iconst C dX5_few_73 ic_1 ?_
    refine g_aload_n C 0 dX5_few_74 rfl rfl ?_
    refine g_getI C in_X5_few_X5 (k := 10) lk_X5_few_0 rfl (Nat.le_of_ble_eq_true rfl) rfl (Nat.le_of_ble_eq_true rfl) rfl dX5_few_75 ?_
    refine g_ishl C dX5_few_78 ?_
    refine g_icmp_ge (tgt := 188) hf C dX5_few_79 (by decide) (fun hf => ?_) (fun hf => ?_)
    · refine g_lv [0, 4] rfl ?_
      exact hk188 v4 σ hf
    · refine g_iload C 5 dX5_few_82 rfl ?_
      refine g_iload_n C 3 dX5_few_84 rfl rfl ?_
      refine g_iconst C dX5_few_85 ic_m1 ?_
      refine g_ixor C dX5_few_86 ?_
      refine g_iand C dX5_few_87 ?_
      refine g_if_ne (tgt := 182) hf C dX5_few_88 (by decide) (fun hf => ?_) (fun hf => ?_)
      · refine g_iinc C 5 [1, 2, 3, 4, 5, 0] dX5_few_182 rfl ic_1 (Nat.le_of_ble_eq_true rfl) rfl ?_
        refine g_goto (tgt := 71) C dX5_few_185 (by decide) ?_
        exact ih v4 (v5 + (1 : Int32)) σ hf
      · refine g_iload C 4 dX5_few_91 rfl ?_
        refine g_bipush C dX5_few_93 bp_m9 ?_
        refine g_join (P := fun j => j = some (r, u) → G wM h X 111 [(0, .ref (h 0)), (1, .int p1), (2, .int p2), (3, .int p3), (4, .int v4), (5, .int v5)] [] σ) hf (fun hf => ?_) (fun j14 hj14 hf => ?_)
        · refine g_iconst C dX5_few_111 ic_0 ?_
          refine g_istore C [1, 2, 3, 4, 5, 6, 0] dX5_few_112 (Nat.le_of_ble_eq_true rfl) rfl ?_
          refine lX5_few_114_ok p1 p2 p3 v4 v5 C hret (fun σ20 hf => ?_) FU (0 : Int32) σ hf
          refine g_aload_n C 0 dX5_few_160 rfl rfl ?_
          refine g_iload_n C 1 dX5_few_161 rfl rfl ?_
          obtain ⟨r22, hc21, hf⟩ := g_bind hf
          refine g_callVi C (mX5_atOnce l0 D0 K0 h σ20 p1 hc21) gX5_few_X5_atOnce rfl rfl rfl ddX5_atOnce ⟨(Nat.le_of_ble_eq_true rfl), (Nat.le_of_ble_eq_true rfl)⟩ rfl (Nat.le_of_ble_eq_true rfl) rfl rfl rfl (Nat.le_of_ble_eq_true rfl) dX5_few_162 ?_
          refine g_iload_n C 2 dX5_few_165 rfl rfl ?_
          refine g_join (P := fun j => ∀ (y24 : Int32), j y24 = some (r, u) → G wM h X 176 [(0, .ref (h 0)), (1, .int p1), (2, .int p2), (3, .int p3), (5, .int v5)] [.int y24] σ20) hf (fun y24 hf => ?_) (fun j23 hj23 hf => ?_)
          · refine g_istore C [1, 2, 3, 4, 0, 5] dX5_few_176 (Nat.le_of_ble_eq_true rfl) rfl ?_
            refine g_aload_n C 0 dX5_few_178 rfl rfl ?_
            obtain ⟨r26, σ27, hc25, hf⟩ := g_pbind hf
            refine g_callVv C (mX5_backHabits l0 D0 K0 h σ20 hc25) gX5_few_X5_backHabits rfl rfl rfl ddX5_backHabits ⟨(Nat.le_of_ble_eq_true rfl), (Nat.le_of_ble_eq_true rfl)⟩ rfl (Nat.le_of_ble_eq_true rfl) rfl rfl rfl (Nat.le_of_ble_eq_true rfl) dX5_few_179 ?_
            refine g_iinc C 5 [1, 2, 3, 4, 5, 0] dX5_few_182 rfl ic_1 (Nat.le_of_ble_eq_true rfl) rfl ?_
            refine g_goto (tgt := 71) C dX5_few_185 (by decide) ?_
            exact ih y24 (v5 + (1 : Int32)) σ27 hf
          · refine g_icmp_lt (tgt := 174) hf C dX5_few_166 (by decide) (fun hf => ?_) (fun hf => ?_)
            · refine g_iload C 4 dX5_few_174 rfl ?_
              refine g_lv [0, 1, 2, 3, 5] rfl ?_
              exact hj23 v4 hf
            · refine g_iload C 5 dX5_few_169 rfl ?_
              refine g_goto (tgt := 176) C dX5_few_171 (by decide) ?_
              refine g_lv [0, 1, 2, 3, 5] rfl ?_
              exact hj23 v5 hf
        · refine g_icmp_eq (tgt := 111) hf C dX5_few_95 (by decide) (fun hf => ?_) (fun hf => ?_)
          · exact hj14 hf
          · refine g_iload C 5 dX5_few_98 rfl ?_
            obtain ⟨r29, hc28, hf⟩ := g_bind hf
            refine g_callSi C (mX5_bits l0 D0 K0 h σ v5 hc28) gX5_few_X5_bits rfl rfl rfl ddX5_bits ⟨(Nat.le_of_ble_eq_true rfl), (Nat.le_of_ble_eq_true rfl)⟩ rfl rfl (Nat.le_of_ble_eq_true rfl) dX5_few_100 ?_
            refine g_iload C 4 dX5_few_103 rfl ?_
            obtain ⟨r31, hc30, hf⟩ := g_bind hf
            refine g_callSi C (mX5_bits l0 D0 K0 h σ v4 hc30) gX5_few_X5_bits rfl rfl rfl ddX5_bits ⟨(Nat.le_of_ble_eq_true rfl), (Nat.le_of_ble_eq_true rfl)⟩ rfl rfl (Nat.le_of_ble_eq_true rfl) dX5_few_105 ?_
            refine g_icmp_ge (tgt := 182) hf C dX5_few_108 (by decide) (fun hf => ?_) (fun hf => ?_)
            · refine g_iinc C 5 [1, 2, 3, 4, 5, 0] dX5_few_182 rfl ic_1 (Nat.le_of_ble_eq_true rfl) rfl ?_
              refine g_goto (tgt := 71) C dX5_few_185 (by decide) ?_
              exact ih v4 (v5 + (1 : Int32)) σ hf
            · exact hj14 hf
set_option maxHeartbeats 4000000 in
set_option maxRecDepth 100000 in
theorem mX5_few (l0 : Launch) (D0 : va_G) (K0 : Nat → ClassId) (h : Nat → Nat) (σ : pS) (a1 : Int32) (a2 : Int32) {r : Int32} {u : pS} (hf : fX5_few σ a1 a2 = some (r, u)) : Met l0 yX5_few wsX5_few ({ frames := 7, cells := 0, slots := 0, locals := 157 } : Room) (va_Pc [.ref (h 0), .int a1, .int a2] (pIn wM D0 K0 h σ)) (va_Qi (fun r' u' => r' = r ∧ u' = u) (pOut wM D0 K0 h) (pA wM h)) 0 0 (pA wM h) := by
  refine p_metI (lv := [(0, .ref (h 0)), (1, .int a1), (2, .int a2)]) (by decide +kernel) rfl rfl (Nat.le_of_ble_eq_true rfl) rfl (fun X C hret => ?_)
  unfold fX5_few at hf
  refine g_iload_n C 1 dX5_few_0 rfl rfl ?_
  obtain ⟨r2, hc1, hf⟩ := g_bind hf
  refine g_callSi C (mX5_isHour l0 D0 K0 h σ a1 hc1) gX5_few_X5_isHour rfl rfl rfl ddX5_isHour ⟨(Nat.le_of_ble_eq_true rfl), (Nat.le_of_ble_eq_true rfl)⟩ rfl rfl (Nat.le_of_ble_eq_true rfl) dX5_few_1 ?_
  refine g_if_eq (tgt := 17) hf C dX5_few_4 (by decide) (fun hf => ?_) (fun hf => ?_)
  · refine g_iconst C dX5_few_17 ic_m1 ?_
    exact g_retiW hf hret dX5_few_18
  · refine g_iload_n C 2 dX5_few_7 rfl rfl ?_
    refine g_iconst C dX5_few_8 ic_1 ?_
    refine g_bipush C dX5_few_9 bp_8 ?_
    obtain ⟨r4, hc3, hf⟩ := g_bind hf
    refine g_callSi C (mX5_in l0 D0 K0 h σ a2 (1 : Int32) (8 : Int32) hc3) gX5_few_X5_in rfl rfl rfl ddX5_in ⟨(Nat.le_of_ble_eq_true rfl), (Nat.le_of_ble_eq_true rfl)⟩ rfl rfl (Nat.le_of_ble_eq_true rfl) dX5_few_11 ?_
    refine g_if_ne (tgt := 19) hf C dX5_few_14 (by decide) (fun hf => ?_) (fun hf => ?_)
    · refine g_aload_n C 0 dX5_few_19 rfl rfl ?_
      obtain ⟨r6, σ7, hc5, hf⟩ := g_pbind hf
      refine g_callVv C (mX5_keepHabits l0 D0 K0 h σ hc5) gX5_few_X5_keepHabits rfl rfl rfl ddX5_keepHabits ⟨(Nat.le_of_ble_eq_true rfl), (Nat.le_of_ble_eq_true rfl)⟩ rfl (Nat.le_of_ble_eq_true rfl) rfl rfl rfl (Nat.le_of_ble_eq_true rfl) dX5_few_20 ?_
      refine g_iconst C dX5_few_23 ic_0 ?_
      refine g_istore_n C [1, 2, 3, 0] dX5_few_24 rfl (Nat.le_of_ble_eq_true rfl) rfl ?_
      refine g_iconst C dX5_few_25 ic_0 ?_
      refine g_istore C [1, 2, 3, 4, 0] dX5_few_26 (Nat.le_of_ble_eq_true rfl) rfl ?_
      refine lX5_few_28_ok σ7 a1 a2 C hret (fun y13 hf => ?_) FU (0 : Int32) (0 : Int32) hf
      refine g_bipush C dX5_few_64 bp_m9 ?_
      refine g_istore C [1, 2, 3, 4, 0] dX5_few_66 (Nat.le_of_ble_eq_true rfl) rfl ?_
      refine g_iconst C dX5_few_68 ic_0 ?_
      refine g_istore C [1, 2, 3, 4, 5, 0] dX5_few_69 (Nat.le_of_ble_eq_true rfl) rfl ?_
      refine lX5_few_71_ok a1 a2 y13 C hret (fun y32 σ33 hf => ?_) FU (-9 : Int32) (0 : Int32) σ7 hf
      refine g_iload C 1 dX5_few_188 rfl ?_
      refine g_bipush C dX5_few_190 bp_m9 ?_
      refine g_icmp_ne (tgt := 200) hf C dX5_few_192 (by decide) (fun hf => ?_) (fun hf => ?_)
      · refine g_aload_n C 0 dX5_few_200 rfl rfl ?_
        refine g_iload C 1 dX5_few_201 rfl ?_
        refine g_iload C 1 dX5_few_203 rfl ?_
        obtain ⟨r35, hc34, hf⟩ := g_bind hf
        refine g_callSi C (mX5_bits l0 D0 K0 h σ33 y32 hc34) gX5_few_X5_bits rfl rfl rfl ddX5_bits ⟨(Nat.le_of_ble_eq_true rfl), (Nat.le_of_ble_eq_true rfl)⟩ rfl rfl (Nat.le_of_ble_eq_true rfl) dX5_few_205 ?_
        obtain ⟨r37, σ38, hc36, hf⟩ := g_pbind hf
        refine g_callVi C (mX5_tells l0 D0 K0 h σ33 y32 r35 hc36) gX5_few_X5_tells rfl rfl rfl ddX5_tells ⟨(Nat.le_of_ble_eq_true rfl), (Nat.le_of_ble_eq_true rfl)⟩ rfl (Nat.le_of_ble_eq_true rfl) rfl rfl rfl (Nat.le_of_ble_eq_true rfl) dX5_few_208 ?_
        exact g_retiW hf hret dX5_few_211
      · refine g_bipush C dX5_few_195 bp_m9 ?_
        refine g_goto (tgt := 211) C dX5_few_197 (by decide) ?_
        exact g_retiW hf hret dX5_few_211
    · refine g_iconst C dX5_few_17 ic_m1 ?_
      exact g_retiW hf hret dX5_few_18
/-! X5_call -/
theorem in_X5_call_X5 : ∀ q ∈ u_ws RX5 TX5 30, q ∈ wsX5_call := by decide +kernel
theorem lk_X5_call_0 : Cond.fieldLink RX5 140 "EmptyHouseModel" "n" "I" ∈ wsX5_call := by decide +kernel
theorem lk_X5_call_1 : Cond.fieldLink RX5 29 "EmptyHouseModel" "people" "[I" ∈ wsX5_call := by decide +kernel
theorem ddX5_call : yX5_call.cls = RX5 ∧ yX5_call.cls ≠ "java/lang/invoke/MethodHandle" ∧ yX5_call.cls ≠ "java/lang/invoke/VarHandle" ∧ (parseMethodDescriptor yX5_call.desc).map (fun d => d.parameters.length) = some 0 := by decide +kernel
set_option maxHeartbeats 4000000 in
set_option maxRecDepth 100000 in
theorem lX5_call_34_ok {h : Nat → Nat} {X : Cx} {l0 : Launch} {D0 : va_G} {K0 : Nat → ClassId} (p1 : Int32) (p5 : Int32) {k165 : Int32 → Int32 → Int32 → pS → Option (Int32 × pS)} {r : Int32} {u : pS} (C : Cok wM h X l0 ({ frames := 8, cells := 0, slots := 0, locals := 180 } : Room) D0 K0 cX5_call 9 RX5 wsX5_call) (hret : ∀ (pc : Nat) (lv' : List (Nat × Value)), decode cX5_call pc = .ok (.ireturn, 1) → G wM h X pc lv' [.int r] u) (hk165 : ∀ (z2 : Int32) (z3 : Int32) (z4 : Int32) (σ : pS), k165 z2 z3 z4 σ = some (r, u) → G wM h X 165 [(0, .ref (h 0)), (1, .int p1), (2, .int z2), (3, .int z3), (4, .int z4), (5, .int p5)] [] σ) : ∀ (F : Nat) (v2 : Int32) (v3 : Int32) (v4 : Int32) (v6 : Int32) (σ : pS), lX5_call_34 p1 p5 k165 F v2 v3 v4 v6 σ = some (r, u) → G wM h X 34 [(0, .ref (h 0)), (1, .int p1), (2, .int v2), (3, .int v3), (4, .int v4), (5, .int p5), (6, .int v6)] [] σ := by
  intro F
  induction F with
  | zero => intro v2 v3 v4 v6 σ hf; exact absurd hf (by simp [lX5_call_34])
  | succ F ih =>
    intro v2 v3 v4 v6 σ hf
    rw [lX5_call_34.eq_2] at hf
    refine g_iload C 6 dX5_call_34 rfl ?_
    refine g_bipush C dX5_call_36 bp_12 ?_
    refine g_icmp_ge (tgt := 165) hf C dX5_call_38 (by decide) (fun hf => ?_) (fun hf => ?_)
    · refine g_lv [0, 1, 2, 3, 4, 5] rfl ?_
      exact hk165 v2 v3 v4 σ hf
    · refine g_aload_n C 0 dX5_call_41 rfl rfl ?_
      refine g_iload C 5 dX5_call_42 rfl ?_
      refine g_iload C 6 dX5_call_44 rfl ?_
      obtain ⟨r7, hc6, hf⟩ := g_bind hf
      refine g_callVi C (mX5_isOut l0 D0 K0 h σ p5 v6 hc6) gX5_call_X5_isOut rfl rfl rfl ddX5_isOut ⟨(Nat.le_of_ble_eq_true rfl), (Nat.le_of_ble_eq_true rfl)⟩ rfl (Nat.le_of_ble_eq_true rfl) rfl rfl rfl (Nat.le_of_ble_eq_true rfl) dX5_call_46 ?_
      refine g_if_ne (tgt := 159) hf C dX5_call_49 (by decide) (fun hf => ?_) (fun hf => ?_)
      · refine g_iinc C 6 [1, 2, 3, 4, 5, 6, 0] dX5_call_159 rfl ic_1 (Nat.le_of_ble_eq_true rfl) rfl ?_
        refine g_goto (tgt := 34) C dX5_call_162 (by decide) ?_
        exact ih v2 v3 v4 (v6 + (1 : Int32)) σ hf
      · refine g_aload_n C 0 dX5_call_52 rfl rfl ?_
        refine g_getC (n := 7) C in_X5_call_X5 (k := 11) lk_X5_call_1 rfl (Nat.le_of_ble_eq_true rfl) rfl (Nat.le_of_ble_eq_true rfl) rfl dX5_call_53 ?_
        refine g_iconst C dX5_call_56 ic_4 ?_
        refine g_iload C 5 dX5_call_57 rfl ?_
        refine g_imul C dX5_call_59 ?_
        refine g_iconst C dX5_call_60 ic_2 ?_
        refine g_iadd C dX5_call_61 ?_
        refine g_dup2 C dX5_call_62 rfl rfl ?_
        refine g_iald hf C rfl (Nat.le_of_ble_eq_true rfl) dX5_call_63 (fun hf => ?_)
        refine g_iconst C dX5_call_64 ic_1 ?_
        refine g_iload C 6 dX5_call_65 rfl ?_
        refine g_ishl C dX5_call_67 ?_
        refine g_ixor C dX5_call_68 ?_
        refine g_iast hf C rfl (Nat.le_of_ble_eq_true rfl) dX5_call_69 (fun hf => ?_)
        refine g_lets hf (fun σ8 hf => ?_)
        refine g_aload_n C 0 dX5_call_70 rfl rfl ?_
        refine g_bipush C dX5_call_71 bp_12 ?_
        obtain ⟨r10, σ11, hc9, hf⟩ := g_pbind hf
        refine g_callVv C (mX5_layRounds l0 D0 K0 h σ8 (12 : Int32) hc9) gX5_call_X5_layRounds rfl rfl rfl ddX5_layRounds ⟨(Nat.le_of_ble_eq_true rfl), (Nat.le_of_ble_eq_true rfl)⟩ rfl (Nat.le_of_ble_eq_true rfl) rfl rfl rfl (Nat.le_of_ble_eq_true rfl) dX5_call_73 ?_
        refine g_aload_n C 0 dX5_call_76 rfl rfl ?_
        refine g_getC (n := 7) C in_X5_call_X5 (k := 11) lk_X5_call_1 rfl (Nat.le_of_ble_eq_true rfl) rfl (Nat.le_of_ble_eq_true rfl) rfl dX5_call_77 ?_
        refine g_iconst C dX5_call_80 ic_4 ?_
        refine g_iload C 5 dX5_call_81 rfl ?_
        refine g_imul C dX5_call_83 ?_
        refine g_iconst C dX5_call_84 ic_2 ?_
        refine g_iadd C dX5_call_85 ?_
        refine g_dup2 C dX5_call_86 rfl rfl ?_
        refine g_iald hf C rfl (Nat.le_of_ble_eq_true rfl) dX5_call_87 (fun hf => ?_)
        refine g_iconst C dX5_call_88 ic_1 ?_
        refine g_iload C 6 dX5_call_89 rfl ?_
        refine g_ishl C dX5_call_91 ?_
        refine g_ixor C dX5_call_92 ?_
        refine g_iast hf C rfl (Nat.le_of_ble_eq_true rfl) dX5_call_93 (fun hf => ?_)
        refine g_lets hf (fun σ12 hf => ?_)
        refine g_aload_n C 0 dX5_call_94 rfl rfl ?_
        obtain ⟨r14, hc13, hf⟩ := g_bind hf
        refine g_callVi C (mX5_paidMany l0 D0 K0 h σ12 hc13) gX5_call_X5_paidMany rfl rfl rfl ddX5_paidMany ⟨(Nat.le_of_ble_eq_true rfl), (Nat.le_of_ble_eq_true rfl)⟩ rfl (Nat.le_of_ble_eq_true rfl) rfl rfl rfl (Nat.le_of_ble_eq_true rfl) dX5_call_95 ?_
        refine g_istore C [1, 2, 3, 4, 5, 6, 7, 0] dX5_call_98 (Nat.le_of_ble_eq_true rfl) rfl ?_
        refine g_aload_n C 0 dX5_call_100 rfl rfl ?_
        obtain ⟨r16, hc15, hf⟩ := g_bind hf
        refine g_callVi C (mX5_bestCost l0 D0 K0 h σ12 hc15) gX5_call_X5_bestCost rfl rfl rfl ddX5_bestCost ⟨(Nat.le_of_ble_eq_true rfl), (Nat.le_of_ble_eq_true rfl)⟩ rfl (Nat.le_of_ble_eq_true rfl) rfl rfl rfl (Nat.le_of_ble_eq_true rfl) dX5_call_101 ?_
        refine g_aload_n C 0 dX5_call_104 rfl rfl ?_
        refine g_getC (n := 7) C in_X5_call_X5 (k := 11) lk_X5_call_1 rfl (Nat.le_of_ble_eq_true rfl) rfl (Nat.le_of_ble_eq_true rfl) rfl dX5_call_105 ?_
        refine g_iconst C dX5_call_108 ic_4 ?_
        refine g_iload C 5 dX5_call_109 rfl ?_
        refine g_imul C dX5_call_111 ?_
        refine g_iconst C dX5_call_112 ic_3 ?_
        refine g_iadd C dX5_call_113 ?_
        refine g_iald hf C rfl (Nat.le_of_ble_eq_true rfl) dX5_call_114 (fun hf => ?_)
        refine g_iadd C dX5_call_115 ?_
        refine g_leti hf (fun x17 hf => ?_)
        refine g_istore C [1, 2, 3, 4, 5, 6, 7, 8, 0] dX5_call_116 (Nat.le_of_ble_eq_true rfl) rfl ?_
        refine g_iload_n C 2 dX5_call_118 rfl rfl ?_
        refine g_bipush C dX5_call_119 bp_m9 ?_
        refine g_join (P := fun j => j = some (r, u) → G wM h X 143 [(0, .ref (h 0)), (1, .int p1), (5, .int p5), (6, .int v6), (7, .int r14), (8, .int x17)] [] σ12) hf (fun hf => ?_) (fun j18 hj18 hf => ?_)
        · refine g_bipush C dX5_call_143 bp_100 ?_
          refine g_iload C 2 dX5_call_145 rfl ?_
          refine g_imul C dX5_call_147 ?_
          refine g_iload C 3 dX5_call_148 rfl ?_
          refine g_iadd C dX5_call_150 ?_
          refine g_leti hf (fun x19 hf => ?_)
          refine g_istore_n C [1, 2, 0, 3, 4, 5, 6] dX5_call_151 rfl (Nat.le_of_ble_eq_true rfl) rfl ?_
          refine g_iload C 5 dX5_call_152 rfl ?_
          refine g_istore_n C [1, 2, 3, 0, 4, 5, 7] dX5_call_154 rfl (Nat.le_of_ble_eq_true rfl) rfl ?_
          refine g_iload C 6 dX5_call_155 rfl ?_
          refine g_istore C [1, 2, 3, 4, 0, 5, 6] dX5_call_157 (Nat.le_of_ble_eq_true rfl) rfl ?_
          refine g_iinc C 6 [1, 2, 3, 4, 5, 6, 0] dX5_call_159 rfl ic_1 (Nat.le_of_ble_eq_true rfl) rfl ?_
          refine g_goto (tgt := 34) C dX5_call_162 (by decide) ?_
          exact ih x19 r14 x17 (v6 + (1 : Int32)) σ12 hf
        · refine g_icmp_eq (tgt := 143) hf C dX5_call_121 (by decide) (fun hf => ?_) (fun hf => ?_)
          · refine g_lv [0, 1, 5, 6, 7, 8] rfl ?_
            exact hj18 hf
          · refine g_iload C 7 dX5_call_124 rfl ?_
            refine g_iload_n C 3 dX5_call_126 rfl rfl ?_
            refine g_icmp_gt (tgt := 143) hf C dX5_call_127 (by decide) (fun hf => ?_) (fun hf => ?_)
            · refine g_lv [0, 1, 5, 6, 7, 8] rfl ?_
              exact hj18 hf
            · refine g_iload C 7 dX5_call_130 rfl ?_
              refine g_iload_n C 3 dX5_call_132 rfl rfl ?_
              refine g_icmp_ne (tgt := 159) hf C dX5_call_133 (by decide) (fun hf => ?_) (fun hf => ?_)
              · refine g_iinc C 6 [1, 2, 3, 4, 5, 6, 0] dX5_call_159 rfl ic_1 (Nat.le_of_ble_eq_true rfl) rfl ?_
                refine g_goto (tgt := 34) C dX5_call_162 (by decide) ?_
                exact ih v2 v3 v4 (v6 + (1 : Int32)) σ12 hf
              · refine g_iload C 8 dX5_call_136 rfl ?_
                refine g_iload C 4 dX5_call_138 rfl ?_
                refine g_icmp_ge (tgt := 159) hf C dX5_call_140 (by decide) (fun hf => ?_) (fun hf => ?_)
                · refine g_iinc C 6 [1, 2, 3, 4, 5, 6, 0] dX5_call_159 rfl ic_1 (Nat.le_of_ble_eq_true rfl) rfl ?_
                  refine g_goto (tgt := 34) C dX5_call_162 (by decide) ?_
                  exact ih v2 v3 v4 (v6 + (1 : Int32)) σ12 hf
                · refine g_lv [0, 1, 5, 6, 7, 8] rfl ?_
                  exact hj18 hf
set_option maxHeartbeats 4000000 in
set_option maxRecDepth 100000 in
theorem lX5_call_22_ok {h : Nat → Nat} {X : Cx} {l0 : Launch} {D0 : va_G} {K0 : Nat → ClassId} (p1 : Int32) {k171 : Int32 → Int32 → pS → Option (Int32 × pS)} {r : Int32} {u : pS} (C : Cok wM h X l0 ({ frames := 8, cells := 0, slots := 0, locals := 180 } : Room) D0 K0 cX5_call 9 RX5 wsX5_call) (hret : ∀ (pc : Nat) (lv' : List (Nat × Value)), decode cX5_call pc = .ok (.ireturn, 1) → G wM h X pc lv' [.int r] u) (hk171 : ∀ (z2 : Int32) (z4 : Int32) (σ : pS), k171 z2 z4 σ = some (r, u) → G wM h X 171 [(0, .ref (h 0)), (1, .int p1), (2, .int z2), (4, .int z4)] [] σ) : ∀ (F : Nat) (v2 : Int32) (v3 : Int32) (v4 : Int32) (v5 : Int32) (σ : pS), lX5_call_22 p1 k171 F v2 v3 v4 v5 σ = some (r, u) → G wM h X 22 [(0, .ref (h 0)), (1, .int p1), (2, .int v2), (3, .int v3), (4, .int v4), (5, .int v5)] [] σ := by
  intro F
  induction F with
  | zero => intro v2 v3 v4 v5 σ hf; exact absurd hf (by simp [lX5_call_22])
  | succ F ih =>
    intro v2 v3 v4 v5 σ hf
    rw [lX5_call_22.eq_2] at hf
    refine g_iload C 5 dX5_call_22 rfl ?_
    refine g_aload_n C 0 dX5_call_24 rfl rfl ?_
    refine g_getI C in_X5_call_X5 (k := 10) lk_X5_call_0 rfl (Nat.le_of_ble_eq_true rfl) rfl (Nat.le_of_ble_eq_true rfl) rfl dX5_call_25 ?_
    refine g_icmp_ge (tgt := 171) hf C dX5_call_28 (by decide) (fun hf => ?_) (fun hf => ?_)
    · refine g_lv [0, 1, 2, 4] rfl ?_
      exact hk171 v2 v4 σ hf
    · refine g_iconst C dX5_call_31 ic_0 ?_
      refine g_istore C [1, 2, 3, 4, 5, 6, 0] dX5_call_32 (Nat.le_of_ble_eq_true rfl) rfl ?_
      refine lX5_call_34_ok p1 v5 C hret (fun y20 y21 y22 σ23 hf => ?_) FU v2 v3 v4 (0 : Int32) σ hf
      refine g_iinc C 5 [1, 2, 3, 4, 5, 0] dX5_call_165 rfl ic_1 (Nat.le_of_ble_eq_true rfl) rfl ?_
      refine g_goto (tgt := 22) C dX5_call_168 (by decide) ?_
      exact ih y20 y21 y22 (v5 + (1 : Int32)) σ23 hf
set_option maxHeartbeats 4000000 in
set_option maxRecDepth 100000 in
theorem mX5_call (l0 : Launch) (D0 : va_G) (K0 : Nat → ClassId) (h : Nat → Nat) (σ : pS)  {r : Int32} {u : pS} (hf : fX5_call σ = some (r, u)) : Met l0 yX5_call wsX5_call ({ frames := 8, cells := 0, slots := 0, locals := 180 } : Room) (va_Pc [.ref (h 0)] (pIn wM D0 K0 h σ)) (va_Qi (fun r' u' => r' = r ∧ u' = u) (pOut wM D0 K0 h) (pA wM h)) 0 0 (pA wM h) := by
  refine p_metI (lv := [(0, .ref (h 0))]) (by decide +kernel) rfl rfl (Nat.le_of_ble_eq_true rfl) rfl (fun X C hret => ?_)
  unfold fX5_call at hf
  refine g_aload_n C 0 dX5_call_0 rfl rfl ?_
  refine g_bipush C dX5_call_1 bp_12 ?_
  obtain ⟨r2, σ3, hc1, hf⟩ := g_pbind hf
  refine g_callVv C (mX5_layRounds l0 D0 K0 h σ (12 : Int32) hc1) gX5_call_X5_layRounds rfl rfl rfl ddX5_layRounds ⟨(Nat.le_of_ble_eq_true rfl), (Nat.le_of_ble_eq_true rfl)⟩ rfl (Nat.le_of_ble_eq_true rfl) rfl rfl rfl (Nat.le_of_ble_eq_true rfl) dX5_call_3 ?_
  refine g_aload_n C 0 dX5_call_6 rfl rfl ?_
  obtain ⟨r5, hc4, hf⟩ := g_bind hf
  refine g_callVi C (mX5_bestCost l0 D0 K0 h σ3 hc4) gX5_call_X5_bestCost rfl rfl rfl ddX5_bestCost ⟨(Nat.le_of_ble_eq_true rfl), (Nat.le_of_ble_eq_true rfl)⟩ rfl (Nat.le_of_ble_eq_true rfl) rfl rfl rfl (Nat.le_of_ble_eq_true rfl) dX5_call_7 ?_
  refine g_istore_n C [1, 0] dX5_call_10 rfl (Nat.le_of_ble_eq_true rfl) rfl ?_
  refine g_bipush C dX5_call_11 bp_m9 ?_
  refine g_istore_n C [1, 2, 0] dX5_call_13 rfl (Nat.le_of_ble_eq_true rfl) rfl ?_
  refine g_iconst C dX5_call_14 ic_0 ?_
  refine g_istore_n C [1, 2, 3, 0] dX5_call_15 rfl (Nat.le_of_ble_eq_true rfl) rfl ?_
  refine g_iconst C dX5_call_16 ic_0 ?_
  refine g_istore C [1, 2, 3, 4, 0] dX5_call_17 (Nat.le_of_ble_eq_true rfl) rfl ?_
  refine g_iconst C dX5_call_19 ic_0 ?_
  refine g_istore C [1, 2, 3, 4, 5, 0] dX5_call_20 (Nat.le_of_ble_eq_true rfl) rfl ?_
  refine lX5_call_22_ok r5 C hret (fun y24 y25 σ26 hf => ?_) FU (-9 : Int32) (0 : Int32) (0 : Int32) (0 : Int32) σ3 hf
  refine g_iload_n C 2 dX5_call_171 rfl rfl ?_
  refine g_bipush C dX5_call_172 bp_m9 ?_
  refine g_icmp_ne (tgt := 182) hf C dX5_call_174 (by decide) (fun hf => ?_) (fun hf => ?_)
  · refine g_aload_n C 0 dX5_call_182 rfl rfl ?_
    refine g_iload_n C 1 dX5_call_183 rfl rfl ?_
    refine g_iload C 3 dX5_call_184 rfl ?_
    refine g_isub C dX5_call_186 ?_
    refine g_iload_n C 2 dX5_call_187 rfl rfl ?_
    obtain ⟨r28, σ29, hc27, hf⟩ := g_pbind hf
    refine g_callVi C (mX5_tells l0 D0 K0 h σ26 (r5 - y25) y24 hc27) gX5_call_X5_tells rfl rfl rfl ddX5_tells ⟨(Nat.le_of_ble_eq_true rfl), (Nat.le_of_ble_eq_true rfl)⟩ rfl (Nat.le_of_ble_eq_true rfl) rfl rfl rfl (Nat.le_of_ble_eq_true rfl) dX5_call_188 ?_
    exact g_retiW hf hret dX5_call_191
  · refine g_bipush C dX5_call_177 bp_m9 ?_
    refine g_goto (tgt := 191) C dX5_call_179 (by decide) ?_
    exact g_retiW hf hret dX5_call_191
/-! X5_paidTo -/
theorem in_X5_paidTo_X5 : ∀ q ∈ u_ws RX5 TX5 30, q ∈ wsX5_paidTo := by decide +kernel
theorem lk_X5_paidTo_0 : Cond.fieldLink RX5 143 "EmptyHouseModel" "debtMany" "I" ∈ wsX5_paidTo := by decide +kernel
theorem lk_X5_paidTo_1 : Cond.fieldLink RX5 41 "EmptyHouseModel" "round" "[I" ∈ wsX5_paidTo := by decide +kernel
theorem ddX5_paidTo : yX5_paidTo.cls = RX5 ∧ yX5_paidTo.cls ≠ "java/lang/invoke/MethodHandle" ∧ yX5_paidTo.cls ≠ "java/lang/invoke/VarHandle" ∧ (parseMethodDescriptor yX5_paidTo.desc).map (fun d => d.parameters.length) = some 1 := by decide +kernel
set_option maxHeartbeats 4000000 in
set_option maxRecDepth 100000 in
theorem lX5_paidTo_8_ok {h : Nat → Nat} {X : Cx} {l0 : Launch} {D0 : va_G} {K0 : Nat → ClassId} (σ : pS) (p1 : Int32) {k61 : Int32 → Option (Int32 × pS)} {r : Int32} {u : pS} (C : Cok wM h X l0 ({ frames := 9, cells := 0, slots := 0, locals := 204 } : Room) D0 K0 cX5_paidTo 4 RX5 wsX5_paidTo) (hret : ∀ (pc : Nat) (lv' : List (Nat × Value)), decode cX5_paidTo pc = .ok (.ireturn, 1) → G wM h X pc lv' [.int r] u) (hk61 : ∀ (z2 : Int32), k61 z2 = some (r, u) → G wM h X 61 [(2, .int z2)] [] σ) : ∀ (F : Nat) (v2 : Int32) (v3 : Int32), lX5_paidTo_8 σ p1 k61 F v2 v3 = some (r, u) → G wM h X 8 [(0, .ref (h 0)), (1, .int p1), (2, .int v2), (3, .int v3)] [] σ := by
  intro F
  induction F with
  | zero => intro v2 v3 hf; exact absurd hf (by simp [lX5_paidTo_8])
  | succ F ih =>
    intro v2 v3 hf
    rw [lX5_paidTo_8.eq_2] at hf
    refine g_iload_n C 3 dX5_paidTo_8 rfl rfl ?_
    refine g_aload_n C 0 dX5_paidTo_9 rfl rfl ?_
    refine g_getI C in_X5_paidTo_X5 (k := 12) lk_X5_paidTo_0 rfl (Nat.le_of_ble_eq_true rfl) rfl (Nat.le_of_ble_eq_true rfl) rfl dX5_paidTo_10 ?_
    refine g_icmp_ge (tgt := 61) hf C dX5_paidTo_13 (by decide) (fun hf => ?_) (fun hf => ?_)
    · refine g_lv [2] rfl ?_
      exact hk61 v2 hf
    · refine g_iload_n C 2 dX5_paidTo_16 rfl rfl ?_
      refine g_aload_n C 0 dX5_paidTo_17 rfl rfl ?_
      refine g_iload_n C 3 dX5_paidTo_18 rfl rfl ?_
      refine g_iconst C dX5_paidTo_19 ic_1 ?_
      obtain ⟨r5, hc4, hf⟩ := g_bind hf
      refine g_callVi C (mX5_debtAt l0 D0 K0 h σ v3 (1 : Int32) hc4) gX5_paidTo_X5_debtAt rfl rfl rfl ddX5_debtAt ⟨(Nat.le_of_ble_eq_true rfl), (Nat.le_of_ble_eq_true rfl)⟩ rfl (Nat.le_of_ble_eq_true rfl) rfl rfl rfl (Nat.le_of_ble_eq_true rfl) dX5_paidTo_20 ?_
      refine g_iload_n C 1 dX5_paidTo_23 rfl rfl ?_
      refine g_join (P := fun j => ∀ (y7 : Int32), j y7 = some (r, u) → G wM h X 53 [(0, .ref (h 0)), (1, .int p1), (3, .int v3)] [.int y7, .int v2] σ) hf (fun y7 hf => ?_) (fun j6 hj6 hf => ?_)
      · refine g_iadd C dX5_paidTo_53 ?_
        refine g_leti hf (fun x8 hf => ?_)
        refine g_istore_n C [1, 2, 0, 3] dX5_paidTo_54 rfl (Nat.le_of_ble_eq_true rfl) rfl ?_
        refine g_iinc C 3 [1, 2, 3, 0] dX5_paidTo_55 rfl ic_1 (Nat.le_of_ble_eq_true rfl) rfl ?_
        refine g_goto (tgt := 8) C dX5_paidTo_58 (by decide) ?_
        exact ih x8 (v3 + (1 : Int32)) hf
      · refine g_icmp_ne (tgt := 52) hf C dX5_paidTo_24 (by decide) (fun hf => ?_) (fun hf => ?_)
        · refine g_iconst C dX5_paidTo_52 ic_0 ?_
          refine g_lv [0, 1, 3] rfl ?_
          exact hj6 (0 : Int32) hf
        · refine g_aload_n C 0 dX5_paidTo_27 rfl rfl ?_
          refine g_getC (n := 11) C in_X5_paidTo_X5 (k := 21) lk_X5_paidTo_1 rfl (Nat.le_of_ble_eq_true rfl) rfl (Nat.le_of_ble_eq_true rfl) rfl dX5_paidTo_28 ?_
          refine g_iload_n C 3 dX5_paidTo_31 rfl rfl ?_
          refine g_iald hf C rfl (Nat.le_of_ble_eq_true rfl) dX5_paidTo_32 (fun hf => ?_)
          refine g_bipush C dX5_paidTo_33 bp_m9 ?_
          refine g_icmp_eq (tgt := 52) hf C dX5_paidTo_35 (by decide) (fun hf => ?_) (fun hf => ?_)
          · refine g_iconst C dX5_paidTo_52 ic_0 ?_
            refine g_lv [0, 1, 3] rfl ?_
            exact hj6 (0 : Int32) hf
          · refine g_aload_n C 0 dX5_paidTo_38 rfl rfl ?_
            refine g_iload_n C 3 dX5_paidTo_39 rfl rfl ?_
            refine g_aload_n C 0 dX5_paidTo_40 rfl rfl ?_
            refine g_getC (n := 11) C in_X5_paidTo_X5 (k := 21) lk_X5_paidTo_1 rfl (Nat.le_of_ble_eq_true rfl) rfl (Nat.le_of_ble_eq_true rfl) rfl dX5_paidTo_41 ?_
            refine g_iload_n C 3 dX5_paidTo_44 rfl rfl ?_
            refine g_iald hf C rfl (Nat.le_of_ble_eq_true rfl) dX5_paidTo_45 (fun hf => ?_)
            obtain ⟨r10, hc9, hf⟩ := g_bind hf
            refine g_callVi C (mX5_costOf l0 D0 K0 h σ v3 (pI σ 11 (v3).toNatClampNeg) hc9) gX5_paidTo_X5_costOf rfl rfl rfl ddX5_costOf ⟨(Nat.le_of_ble_eq_true rfl), (Nat.le_of_ble_eq_true rfl)⟩ rfl (Nat.le_of_ble_eq_true rfl) rfl rfl rfl (Nat.le_of_ble_eq_true rfl) dX5_paidTo_46 ?_
            refine g_goto (tgt := 53) C dX5_paidTo_49 (by decide) ?_
            refine g_lv [0, 1, 3] rfl ?_
            exact hj6 r10 hf
set_option maxHeartbeats 4000000 in
set_option maxRecDepth 100000 in
theorem mX5_paidTo (l0 : Launch) (D0 : va_G) (K0 : Nat → ClassId) (h : Nat → Nat) (σ : pS) (a1 : Int32) {r : Int32} {u : pS} (hf : fX5_paidTo σ a1 = some (r, u)) : Met l0 yX5_paidTo wsX5_paidTo ({ frames := 9, cells := 0, slots := 0, locals := 204 } : Room) (va_Pc [.ref (h 0), .int a1] (pIn wM D0 K0 h σ)) (va_Qi (fun r' u' => r' = r ∧ u' = u) (pOut wM D0 K0 h) (pA wM h)) 0 0 (pA wM h) := by
  refine p_metI (lv := [(0, .ref (h 0)), (1, .int a1)]) (by decide +kernel) rfl rfl (Nat.le_of_ble_eq_true rfl) rfl (fun X C hret => ?_)
  unfold fX5_paidTo at hf
  refine g_aload_n C 0 dX5_paidTo_0 rfl rfl ?_
  obtain ⟨r2, σ3, hc1, hf⟩ := g_pbind hf
  refine g_callVv C (mX5_layRound l0 D0 K0 h σ hc1) gX5_paidTo_X5_layRound rfl rfl rfl ddX5_layRound ⟨(Nat.le_of_ble_eq_true rfl), (Nat.le_of_ble_eq_true rfl)⟩ rfl (Nat.le_of_ble_eq_true rfl) rfl rfl rfl (Nat.le_of_ble_eq_true rfl) dX5_paidTo_1 ?_
  refine g_iconst C dX5_paidTo_4 ic_0 ?_
  refine g_istore_n C [1, 2, 0] dX5_paidTo_5 rfl (Nat.le_of_ble_eq_true rfl) rfl ?_
  refine g_iconst C dX5_paidTo_6 ic_0 ?_
  refine g_istore_n C [1, 2, 3, 0] dX5_paidTo_7 rfl (Nat.le_of_ble_eq_true rfl) rfl ?_
  refine lX5_paidTo_8_ok σ3 a1 C hret (fun y11 hf => ?_) FU (0 : Int32) (0 : Int32) hf
  refine g_iload_n C 0 dX5_paidTo_61 rfl rfl ?_
  exact g_retiW hf hret dX5_paidTo_62
/-! X5_stay -/
theorem in_X5_stay_X5 : ∀ q ∈ u_ws RX5 TX5 30, q ∈ wsX5_stay := by decide +kernel
theorem lk_X5_stay_0 : Cond.fieldLink RX5 29 "EmptyHouseModel" "people" "[I" ∈ wsX5_stay := by decide +kernel
theorem ddX5_stay : yX5_stay.cls = RX5 ∧ yX5_stay.cls ≠ "java/lang/invoke/MethodHandle" ∧ yX5_stay.cls ≠ "java/lang/invoke/VarHandle" ∧ (parseMethodDescriptor yX5_stay.desc).map (fun d => d.parameters.length) = some 1 := by decide +kernel
set_option maxHeartbeats 4000000 in
set_option maxRecDepth 100000 in
theorem lX5_stay_25_ok {h : Nat → Nat} {X : Cx} {l0 : Launch} {D0 : va_G} {K0 : Nat → ClassId} (p1 : Int32) (p2 : Int32) {k109 : Int32 → Int32 → pS → Option (Int32 × pS)} {r : Int32} {u : pS} (C : Cok wM h X l0 ({ frames := 10, cells := 0, slots := 0, locals := 227 } : Room) D0 K0 cX5_stay 7 RX5 wsX5_stay) (hret : ∀ (pc : Nat) (lv' : List (Nat × Value)), decode cX5_stay pc = .ok (.ireturn, 1) → G wM h X pc lv' [.int r] u) (hk109 : ∀ (z3 : Int32) (z4 : Int32) (σ : pS), k109 z3 z4 σ = some (r, u) → G wM h X 109 [(0, .ref (h 0)), (2, .int p2), (3, .int z3), (4, .int z4)] [] σ) : ∀ (F : Nat) (v3 : Int32) (v4 : Int32) (v5 : Int32) (σ : pS), lX5_stay_25 p1 p2 k109 F v3 v4 v5 σ = some (r, u) → G wM h X 25 [(0, .ref (h 0)), (1, .int p1), (2, .int p2), (3, .int v3), (4, .int v4), (5, .int v5)] [] σ := by
  intro F
  induction F with
  | zero => intro v3 v4 v5 σ hf; exact absurd hf (by simp [lX5_stay_25])
  | succ F ih =>
    intro v3 v4 v5 σ hf
    rw [lX5_stay_25.eq_2] at hf
    refine g_iload C 5 dX5_stay_25 rfl ?_
    refine g_bipush C dX5_stay_27 bp_12 ?_
    refine g_icmp_ge (tgt := 109) hf C dX5_stay_29 (by decide) (fun hf => ?_) (fun hf => ?_)
    · refine g_lv [0, 2, 3, 4] rfl ?_
      exact hk109 v3 v4 σ hf
    · refine g_aload_n C 0 dX5_stay_32 rfl rfl ?_
      refine g_iload_n C 1 dX5_stay_33 rfl rfl ?_
      refine g_iload C 5 dX5_stay_34 rfl ?_
      obtain ⟨r7, hc6, hf⟩ := g_bind hf
      refine g_callVi C (mX5_isOut l0 D0 K0 h σ p1 v5 hc6) gX5_stay_X5_isOut rfl rfl rfl ddX5_isOut ⟨(Nat.le_of_ble_eq_true rfl), (Nat.le_of_ble_eq_true rfl)⟩ rfl (Nat.le_of_ble_eq_true rfl) rfl rfl rfl (Nat.le_of_ble_eq_true rfl) dX5_stay_36 ?_
      refine g_if_eq (tgt := 103) hf C dX5_stay_39 (by decide) (fun hf => ?_) (fun hf => ?_)
      · refine g_iinc C 5 [1, 2, 3, 4, 5, 0] dX5_stay_103 rfl ic_1 (Nat.le_of_ble_eq_true rfl) rfl ?_
        refine g_goto (tgt := 25) C dX5_stay_106 (by decide) ?_
        exact ih v3 v4 (v5 + (1 : Int32)) σ hf
      · refine g_aload_n C 0 dX5_stay_42 rfl rfl ?_
        refine g_getC (n := 7) C in_X5_stay_X5 (k := 11) lk_X5_stay_0 rfl (Nat.le_of_ble_eq_true rfl) rfl (Nat.le_of_ble_eq_true rfl) rfl dX5_stay_43 ?_
        refine g_iconst C dX5_stay_46 ic_4 ?_
        refine g_iload_n C 1 dX5_stay_47 rfl rfl ?_
        refine g_imul C dX5_stay_48 ?_
        refine g_iconst C dX5_stay_49 ic_2 ?_
        refine g_iadd C dX5_stay_50 ?_
        refine g_dup2 C dX5_stay_51 rfl rfl ?_
        refine g_iald hf C rfl (Nat.le_of_ble_eq_true rfl) dX5_stay_52 (fun hf => ?_)
        refine g_iconst C dX5_stay_53 ic_1 ?_
        refine g_iload C 5 dX5_stay_54 rfl ?_
        refine g_ishl C dX5_stay_56 ?_
        refine g_ixor C dX5_stay_57 ?_
        refine g_iast hf C rfl (Nat.le_of_ble_eq_true rfl) dX5_stay_58 (fun hf => ?_)
        refine g_lets hf (fun σ8 hf => ?_)
        refine g_aload_n C 0 dX5_stay_59 rfl rfl ?_
        refine g_iload_n C 1 dX5_stay_60 rfl rfl ?_
        obtain ⟨r10, σ11, hc9, hf⟩ := g_pbind hf
        refine g_callVi C (mX5_paidTo l0 D0 K0 h σ8 p1 hc9) gX5_stay_X5_paidTo rfl rfl rfl ddX5_paidTo ⟨(Nat.le_of_ble_eq_true rfl), (Nat.le_of_ble_eq_true rfl)⟩ rfl (Nat.le_of_ble_eq_true rfl) rfl rfl rfl (Nat.le_of_ble_eq_true rfl) dX5_stay_61 ?_
        refine g_istore C [1, 2, 3, 4, 5, 6, 0] dX5_stay_64 (Nat.le_of_ble_eq_true rfl) rfl ?_
        refine g_aload_n C 0 dX5_stay_66 rfl rfl ?_
        refine g_getC (n := 7) C in_X5_stay_X5 (k := 11) lk_X5_stay_0 rfl (Nat.le_of_ble_eq_true rfl) rfl (Nat.le_of_ble_eq_true rfl) rfl dX5_stay_67 ?_
        refine g_iconst C dX5_stay_70 ic_4 ?_
        refine g_iload_n C 1 dX5_stay_71 rfl rfl ?_
        refine g_imul C dX5_stay_72 ?_
        refine g_iconst C dX5_stay_73 ic_2 ?_
        refine g_iadd C dX5_stay_74 ?_
        refine g_dup2 C dX5_stay_75 rfl rfl ?_
        refine g_iald hf C rfl (Nat.le_of_ble_eq_true rfl) dX5_stay_76 (fun hf => ?_)
        refine g_iconst C dX5_stay_77 ic_1 ?_
        refine g_iload C 5 dX5_stay_78 rfl ?_
        refine g_ishl C dX5_stay_80 ?_
        refine g_ixor C dX5_stay_81 ?_
        refine g_iast hf C rfl (Nat.le_of_ble_eq_true rfl) dX5_stay_82 (fun hf => ?_)
        refine g_lets hf (fun σ12 hf => ?_)
        refine g_iload_n C 3 dX5_stay_83 rfl rfl ?_
        refine g_bipush C dX5_stay_84 bp_m9 ?_
        refine g_join (P := fun j => j = some (r, u) → G wM h X 96 [(0, .ref (h 0)), (1, .int p1), (2, .int p2), (5, .int v5), (6, .int r10)] [] σ12) hf (fun hf => ?_) (fun j13 hj13 hf => ?_)
        · refine g_iload C 3 dX5_stay_96 rfl ?_
          refine g_istore_n C [1, 2, 3, 0, 4, 5] dX5_stay_98 rfl (Nat.le_of_ble_eq_true rfl) rfl ?_
          refine g_iload C 5 dX5_stay_99 rfl ?_
          refine g_istore C [1, 2, 3, 4, 0, 5] dX5_stay_101 (Nat.le_of_ble_eq_true rfl) rfl ?_
          refine g_iinc C 5 [1, 2, 3, 4, 5, 0] dX5_stay_103 rfl ic_1 (Nat.le_of_ble_eq_true rfl) rfl ?_
          refine g_goto (tgt := 25) C dX5_stay_106 (by decide) ?_
          exact ih v5 r10 (v5 + (1 : Int32)) σ12 hf
        · refine g_icmp_eq (tgt := 96) hf C dX5_stay_86 (by decide) (fun hf => ?_) (fun hf => ?_)
          · refine g_lv [0, 1, 2, 5, 6] rfl ?_
            exact hj13 hf
          · refine g_iload C 6 dX5_stay_89 rfl ?_
            refine g_iload C 4 dX5_stay_91 rfl ?_
            refine g_icmp_le (tgt := 103) hf C dX5_stay_93 (by decide) (fun hf => ?_) (fun hf => ?_)
            · refine g_iinc C 5 [1, 2, 3, 4, 5, 0] dX5_stay_103 rfl ic_1 (Nat.le_of_ble_eq_true rfl) rfl ?_
              refine g_goto (tgt := 25) C dX5_stay_106 (by decide) ?_
              exact ih v3 v4 (v5 + (1 : Int32)) σ12 hf
            · refine g_lv [0, 1, 2, 5, 6] rfl ?_
              exact hj13 hf
set_option maxHeartbeats 4000000 in
set_option maxRecDepth 100000 in
theorem mX5_stay (l0 : Launch) (D0 : va_G) (K0 : Nat → ClassId) (h : Nat → Nat) (σ : pS) (a1 : Int32) {r : Int32} {u : pS} (hf : fX5_stay σ a1 = some (r, u)) : Met l0 yX5_stay wsX5_stay ({ frames := 10, cells := 0, slots := 0, locals := 227 } : Room) (va_Pc [.ref (h 0), .int a1] (pIn wM D0 K0 h σ)) (va_Qi (fun r' u' => r' = r ∧ u' = u) (pOut wM D0 K0 h) (pA wM h)) 0 0 (pA wM h) := by
  refine p_metI (lv := [(0, .ref (h 0)), (1, .int a1)]) (by decide +kernel) rfl rfl (Nat.le_of_ble_eq_true rfl) rfl (fun X C hret => ?_)
  unfold fX5_stay at hf
  refine g_aload_n C 0 dX5_stay_0 rfl rfl ?_
  refine g_iload_n C 1 dX5_stay_1 rfl rfl ?_
  obtain ⟨r2, hc1, hf⟩ := g_bind hf
  refine g_callVi C (mX5_isOne l0 D0 K0 h σ a1 hc1) gX5_stay_X5_isOne rfl rfl rfl ddX5_isOne ⟨(Nat.le_of_ble_eq_true rfl), (Nat.le_of_ble_eq_true rfl)⟩ rfl (Nat.le_of_ble_eq_true rfl) rfl rfl rfl (Nat.le_of_ble_eq_true rfl) dX5_stay_2 ?_
  refine g_if_ne (tgt := 10) hf C dX5_stay_5 (by decide) (fun hf => ?_) (fun hf => ?_)
  · refine g_aload_n C 0 dX5_stay_10 rfl rfl ?_
    refine g_iload_n C 1 dX5_stay_11 rfl rfl ?_
    obtain ⟨r4, σ5, hc3, hf⟩ := g_pbind hf
    refine g_callVi C (mX5_paidTo l0 D0 K0 h σ a1 hc3) gX5_stay_X5_paidTo rfl rfl rfl ddX5_paidTo ⟨(Nat.le_of_ble_eq_true rfl), (Nat.le_of_ble_eq_true rfl)⟩ rfl (Nat.le_of_ble_eq_true rfl) rfl rfl rfl (Nat.le_of_ble_eq_true rfl) dX5_stay_12 ?_
    refine g_istore_n C [1, 2, 0] dX5_stay_15 rfl (Nat.le_of_ble_eq_true rfl) rfl ?_
    refine g_bipush C dX5_stay_16 bp_m9 ?_
    refine g_istore_n C [1, 2, 3, 0] dX5_stay_18 rfl (Nat.le_of_ble_eq_true rfl) rfl ?_
    refine g_iconst C dX5_stay_19 ic_0 ?_
    refine g_istore C [1, 2, 3, 4, 0] dX5_stay_20 (Nat.le_of_ble_eq_true rfl) rfl ?_
    refine g_iconst C dX5_stay_22 ic_0 ?_
    refine g_istore C [1, 2, 3, 4, 5, 0] dX5_stay_23 (Nat.le_of_ble_eq_true rfl) rfl ?_
    refine lX5_stay_25_ok a1 r4 C hret (fun y14 y15 σ16 hf => ?_) FU (-9 : Int32) (0 : Int32) (0 : Int32) σ5 hf
    refine g_iload_n C 2 dX5_stay_109 rfl rfl ?_
    refine g_bipush C dX5_stay_110 bp_m9 ?_
    refine g_icmp_ne (tgt := 120) hf C dX5_stay_112 (by decide) (fun hf => ?_) (fun hf => ?_)
    · refine g_aload_n C 0 dX5_stay_120 rfl rfl ?_
      refine g_iload C 3 dX5_stay_121 rfl ?_
      refine g_iload_n C 1 dX5_stay_123 rfl rfl ?_
      refine g_isub C dX5_stay_124 ?_
      refine g_iload_n C 2 dX5_stay_125 rfl rfl ?_
      obtain ⟨r18, σ19, hc17, hf⟩ := g_pbind hf
      refine g_callVi C (mX5_tells l0 D0 K0 h σ16 (y15 - r4) y14 hc17) gX5_stay_X5_tells rfl rfl rfl ddX5_tells ⟨(Nat.le_of_ble_eq_true rfl), (Nat.le_of_ble_eq_true rfl)⟩ rfl (Nat.le_of_ble_eq_true rfl) rfl rfl rfl (Nat.le_of_ble_eq_true rfl) dX5_stay_126 ?_
      exact g_retiW hf hret dX5_stay_129
    · refine g_bipush C dX5_stay_115 bp_m9 ?_
      refine g_goto (tgt := 129) C dX5_stay_117 (by decide) ?_
      exact g_retiW hf hret dX5_stay_129
  · refine g_iconst C dX5_stay_8 ic_m1 ?_
    exact g_retiW hf hret dX5_stay_9
/-! X5_against -/
theorem ddX5_against : yX5_against.cls = RX5 ∧ yX5_against.cls ≠ "java/lang/invoke/MethodHandle" ∧ yX5_against.cls ≠ "java/lang/invoke/VarHandle" ∧ (parseMethodDescriptor yX5_against.desc).map (fun d => d.parameters.length) = some 2 := by decide +kernel
set_option maxHeartbeats 4000000 in
set_option maxRecDepth 100000 in
theorem mX5_against (l0 : Launch) (D0 : va_G) (K0 : Nat → ClassId) (h : Nat → Nat) (σ : pS) (a1 : Int32) (a2 : Int32) {r : Int32} {u : pS} (hf : fX5_against σ a1 a2 = some (r, u)) : Met l0 yX5_against wsX5_against ({ frames := 2, cells := 0, slots := 0, locals := 43 } : Room) (va_Pc [.ref (h 0), .int a1, .int a2] (pIn wM D0 K0 h σ)) (va_Qi (fun r' u' => r' = r ∧ u' = u) (pOut wM D0 K0 h) (pA wM h)) 0 0 (pA wM h) := by
  refine p_metI (lv := [(0, .ref (h 0)), (1, .int a1), (2, .int a2)]) (by decide +kernel) rfl rfl (Nat.le_of_ble_eq_true rfl) rfl (fun X C hret => ?_)
  unfold fX5_against at hf
  refine g_aload_n C 0 dX5_against_0 rfl rfl ?_
  refine g_iload_n C 1 dX5_against_1 rfl rfl ?_
  obtain ⟨r2, hc1, hf⟩ := g_bind hf
  refine g_callVi C (mX5_isDebt l0 D0 K0 h σ a1 hc1) gX5_against_X5_isDebt rfl rfl rfl ddX5_isDebt ⟨(Nat.le_of_ble_eq_true rfl), (Nat.le_of_ble_eq_true rfl)⟩ rfl (Nat.le_of_ble_eq_true rfl) rfl rfl rfl (Nat.le_of_ble_eq_true rfl) dX5_against_2 ?_
  refine g_if_eq (tgt := 21) hf C dX5_against_5 (by decide) (fun hf => ?_) (fun hf => ?_)
  · refine g_iconst C dX5_against_21 ic_m1 ?_
    exact g_retiW hf hret dX5_against_22
  · refine g_aload_n C 0 dX5_against_8 rfl rfl ?_
    refine g_iload_n C 2 dX5_against_9 rfl rfl ?_
    obtain ⟨r4, hc3, hf⟩ := g_bind hf
    refine g_callVi C (mX5_isDebt l0 D0 K0 h σ a2 hc3) gX5_against_X5_isDebt rfl rfl rfl ddX5_isDebt ⟨(Nat.le_of_ble_eq_true rfl), (Nat.le_of_ble_eq_true rfl)⟩ rfl (Nat.le_of_ble_eq_true rfl) rfl rfl rfl (Nat.le_of_ble_eq_true rfl) dX5_against_10 ?_
    refine g_if_eq (tgt := 21) hf C dX5_against_13 (by decide) (fun hf => ?_) (fun hf => ?_)
    · refine g_iconst C dX5_against_21 ic_m1 ?_
      exact g_retiW hf hret dX5_against_22
    · refine g_iload_n C 1 dX5_against_16 rfl rfl ?_
      refine g_iload_n C 2 dX5_against_17 rfl rfl ?_
      refine g_icmp_ne (tgt := 23) hf C dX5_against_18 (by decide) (fun hf => ?_) (fun hf => ?_)
      · refine g_aload_n C 0 dX5_against_23 rfl rfl ?_
        refine g_iload_n C 1 dX5_against_24 rfl rfl ?_
        refine g_iconst C dX5_against_25 ic_0 ?_
        obtain ⟨r6, hc5, hf⟩ := g_bind hf
        refine g_callVi C (mX5_debtAt l0 D0 K0 h σ a1 (0 : Int32) hc5) gX5_against_X5_debtAt rfl rfl rfl ddX5_debtAt ⟨(Nat.le_of_ble_eq_true rfl), (Nat.le_of_ble_eq_true rfl)⟩ rfl (Nat.le_of_ble_eq_true rfl) rfl rfl rfl (Nat.le_of_ble_eq_true rfl) dX5_against_26 ?_
        refine g_aload_n C 0 dX5_against_29 rfl rfl ?_
        refine g_iload_n C 2 dX5_against_30 rfl rfl ?_
        refine g_iconst C dX5_against_31 ic_1 ?_
        obtain ⟨r8, hc7, hf⟩ := g_bind hf
        refine g_callVi C (mX5_debtAt l0 D0 K0 h σ a2 (1 : Int32) hc7) gX5_against_X5_debtAt rfl rfl rfl ddX5_debtAt ⟨(Nat.le_of_ble_eq_true rfl), (Nat.le_of_ble_eq_true rfl)⟩ rfl (Nat.le_of_ble_eq_true rfl) rfl rfl rfl (Nat.le_of_ble_eq_true rfl) dX5_against_32 ?_
        refine g_join (P := fun j => ∀ (y10 : Int32), j y10 = some (r, u) → G wM h X 58 [(0, .ref (h 0)), (1, .int a1), (2, .int a2)] [.int y10] σ) hf (fun y10 hf => ?_) (fun j9 hj9 hf => ?_)
        · refine g_istore_n C [1, 2, 3, 0] dX5_against_58 rfl (Nat.le_of_ble_eq_true rfl) rfl ?_
          refine g_iload_n C 3 dX5_against_59 rfl rfl ?_
          refine g_if_eq (tgt := 85) hf C dX5_against_60 (by decide) (fun hf => ?_) (fun hf => ?_)
          · refine g_bipush C dX5_against_85 bp_m4 ?_
            exact g_retiW hf hret dX5_against_87
          · refine g_aload_n C 0 dX5_against_63 rfl rfl ?_
            refine g_iload_n C 1 dX5_against_64 rfl rfl ?_
            refine g_iconst C dX5_against_65 ic_4 ?_
            obtain ⟨r12, hc11, hf⟩ := g_bind hf
            refine g_callVi C (mX5_debtAt l0 D0 K0 h σ a1 (4 : Int32) hc11) gX5_against_X5_debtAt rfl rfl rfl ddX5_debtAt ⟨(Nat.le_of_ble_eq_true rfl), (Nat.le_of_ble_eq_true rfl)⟩ rfl (Nat.le_of_ble_eq_true rfl) rfl rfl rfl (Nat.le_of_ble_eq_true rfl) dX5_against_66 ?_
            refine g_bipush C dX5_against_69 bp_m9 ?_
            refine g_icmp_ne (tgt := 85) hf C dX5_against_71 (by decide) (fun hf => ?_) (fun hf => ?_)
            · refine g_bipush C dX5_against_85 bp_m4 ?_
              exact g_retiW hf hret dX5_against_87
            · refine g_aload_n C 0 dX5_against_74 rfl rfl ?_
              refine g_iload_n C 2 dX5_against_75 rfl rfl ?_
              refine g_iconst C dX5_against_76 ic_4 ?_
              obtain ⟨r14, hc13, hf⟩ := g_bind hf
              refine g_callVi C (mX5_debtAt l0 D0 K0 h σ a2 (4 : Int32) hc13) gX5_against_X5_debtAt rfl rfl rfl ddX5_debtAt ⟨(Nat.le_of_ble_eq_true rfl), (Nat.le_of_ble_eq_true rfl)⟩ rfl (Nat.le_of_ble_eq_true rfl) rfl rfl rfl (Nat.le_of_ble_eq_true rfl) dX5_against_77 ?_
              refine g_bipush C dX5_against_80 bp_m9 ?_
              refine g_icmp_eq (tgt := 88) hf C dX5_against_82 (by decide) (fun hf => ?_) (fun hf => ?_)
              · refine g_aload_n C 0 dX5_against_88 rfl rfl ?_
                refine g_iload_n C 1 dX5_against_89 rfl rfl ?_
                refine g_iconst C dX5_against_90 ic_2 ?_
                obtain ⟨r16, hc15, hf⟩ := g_bind hf
                refine g_callVi C (mX5_debtAt l0 D0 K0 h σ a1 (2 : Int32) hc15) gX5_against_X5_debtAt rfl rfl rfl ddX5_debtAt ⟨(Nat.le_of_ble_eq_true rfl), (Nat.le_of_ble_eq_true rfl)⟩ rfl (Nat.le_of_ble_eq_true rfl) rfl rfl rfl (Nat.le_of_ble_eq_true rfl) dX5_against_91 ?_
                refine g_aload_n C 0 dX5_against_94 rfl rfl ?_
                refine g_iload_n C 2 dX5_against_95 rfl rfl ?_
                refine g_iconst C dX5_against_96 ic_2 ?_
                obtain ⟨r18, hc17, hf⟩ := g_bind hf
                refine g_callVi C (mX5_debtAt l0 D0 K0 h σ a2 (2 : Int32) hc17) gX5_against_X5_debtAt rfl rfl rfl ddX5_debtAt ⟨(Nat.le_of_ble_eq_true rfl), (Nat.le_of_ble_eq_true rfl)⟩ rfl (Nat.le_of_ble_eq_true rfl) rfl rfl rfl (Nat.le_of_ble_eq_true rfl) dX5_against_97 ?_
                refine g_isub C dX5_against_100 ?_
                refine g_leti hf (fun x19 hf => ?_)
                refine g_istore C [1, 2, 3, 0] dX5_against_101 (Nat.le_of_ble_eq_true rfl) rfl ?_
                refine g_iload C 3 dX5_against_103 rfl ?_
                refine g_if_ne (tgt := 118) hf C dX5_against_105 (by decide) (fun hf => ?_) (fun hf => ?_)
                · refine g_iload C 3 dX5_against_118 rfl ?_
                  refine g_if_le (tgt := 138) hf C dX5_against_120 (by decide) (fun hf => ?_) (fun hf => ?_)
                  · refine g_aload_n C 0 dX5_against_138 rfl rfl ?_
                    refine g_aload_n C 0 dX5_against_139 rfl rfl ?_
                    refine g_iload_n C 2 dX5_against_140 rfl rfl ?_
                    refine g_iconst C dX5_against_141 ic_0 ?_
                    obtain ⟨r21, hc20, hf⟩ := g_bind hf
                    refine g_callVi C (mX5_debtAt l0 D0 K0 h σ a2 (0 : Int32) hc20) gX5_against_X5_debtAt rfl rfl rfl ddX5_debtAt ⟨(Nat.le_of_ble_eq_true rfl), (Nat.le_of_ble_eq_true rfl)⟩ rfl (Nat.le_of_ble_eq_true rfl) rfl rfl rfl (Nat.le_of_ble_eq_true rfl) dX5_against_142 ?_
                    refine g_iload C 3 dX5_against_145 rfl ?_
                    refine g_ineg C dX5_against_147 ?_
                    obtain ⟨r23, σ24, hc22, hf⟩ := g_pbind hf
                    refine g_callVi C (mX5_tells l0 D0 K0 h σ r21 (-x19) hc22) gX5_against_X5_tells rfl rfl rfl ddX5_tells ⟨(Nat.le_of_ble_eq_true rfl), (Nat.le_of_ble_eq_true rfl)⟩ rfl (Nat.le_of_ble_eq_true rfl) rfl rfl rfl (Nat.le_of_ble_eq_true rfl) dX5_against_148 ?_
                    exact g_retiW hf hret dX5_against_151
                  · refine g_aload_n C 0 dX5_against_123 rfl rfl ?_
                    refine g_aload_n C 0 dX5_against_124 rfl rfl ?_
                    refine g_iload_n C 1 dX5_against_125 rfl rfl ?_
                    refine g_iconst C dX5_against_126 ic_0 ?_
                    obtain ⟨r26, hc25, hf⟩ := g_bind hf
                    refine g_callVi C (mX5_debtAt l0 D0 K0 h σ a1 (0 : Int32) hc25) gX5_against_X5_debtAt rfl rfl rfl ddX5_debtAt ⟨(Nat.le_of_ble_eq_true rfl), (Nat.le_of_ble_eq_true rfl)⟩ rfl (Nat.le_of_ble_eq_true rfl) rfl rfl rfl (Nat.le_of_ble_eq_true rfl) dX5_against_127 ?_
                    refine g_iload C 3 dX5_against_130 rfl ?_
                    obtain ⟨r28, σ29, hc27, hf⟩ := g_pbind hf
                    refine g_callVi C (mX5_tells l0 D0 K0 h σ r26 x19 hc27) gX5_against_X5_tells rfl rfl rfl ddX5_tells ⟨(Nat.le_of_ble_eq_true rfl), (Nat.le_of_ble_eq_true rfl)⟩ rfl (Nat.le_of_ble_eq_true rfl) rfl rfl rfl (Nat.le_of_ble_eq_true rfl) dX5_against_132 ?_
                    refine g_goto (tgt := 151) C dX5_against_135 (by decide) ?_
                    exact g_retiW hf hret dX5_against_151
                · refine g_aload_n C 0 dX5_against_108 rfl rfl ?_
                  refine g_bipush C dX5_against_109 bp_m9 ?_
                  refine g_iconst C dX5_against_111 ic_0 ?_
                  obtain ⟨r31, σ32, hc30, hf⟩ := g_pbind hf
                  refine g_callVi C (mX5_tells l0 D0 K0 h σ (-9 : Int32) (0 : Int32) hc30) gX5_against_X5_tells rfl rfl rfl ddX5_tells ⟨(Nat.le_of_ble_eq_true rfl), (Nat.le_of_ble_eq_true rfl)⟩ rfl (Nat.le_of_ble_eq_true rfl) rfl rfl rfl (Nat.le_of_ble_eq_true rfl) dX5_against_112 ?_
                  refine g_goto (tgt := 151) C dX5_against_115 (by decide) ?_
                  exact g_retiW hf hret dX5_against_151
              · refine g_bipush C dX5_against_85 bp_m4 ?_
                exact g_retiW hf hret dX5_against_87
        · refine g_icmp_ne (tgt := 57) hf C dX5_against_35 (by decide) (fun hf => ?_) (fun hf => ?_)
          · refine g_iconst C dX5_against_57 ic_0 ?_
            exact hj9 (0 : Int32) hf
          · refine g_aload_n C 0 dX5_against_38 rfl rfl ?_
            refine g_iload_n C 1 dX5_against_39 rfl rfl ?_
            refine g_iconst C dX5_against_40 ic_1 ?_
            obtain ⟨r34, hc33, hf⟩ := g_bind hf
            refine g_callVi C (mX5_debtAt l0 D0 K0 h σ a1 (1 : Int32) hc33) gX5_against_X5_debtAt rfl rfl rfl ddX5_debtAt ⟨(Nat.le_of_ble_eq_true rfl), (Nat.le_of_ble_eq_true rfl)⟩ rfl (Nat.le_of_ble_eq_true rfl) rfl rfl rfl (Nat.le_of_ble_eq_true rfl) dX5_against_41 ?_
            refine g_aload_n C 0 dX5_against_44 rfl rfl ?_
            refine g_iload_n C 2 dX5_against_45 rfl rfl ?_
            refine g_iconst C dX5_against_46 ic_0 ?_
            obtain ⟨r36, hc35, hf⟩ := g_bind hf
            refine g_callVi C (mX5_debtAt l0 D0 K0 h σ a2 (0 : Int32) hc35) gX5_against_X5_debtAt rfl rfl rfl ddX5_debtAt ⟨(Nat.le_of_ble_eq_true rfl), (Nat.le_of_ble_eq_true rfl)⟩ rfl (Nat.le_of_ble_eq_true rfl) rfl rfl rfl (Nat.le_of_ble_eq_true rfl) dX5_against_47 ?_
            refine g_icmp_ne (tgt := 57) hf C dX5_against_50 (by decide) (fun hf => ?_) (fun hf => ?_)
            · refine g_iconst C dX5_against_57 ic_0 ?_
              exact hj9 (0 : Int32) hf
            · refine g_iconst C dX5_against_53 ic_1 ?_
              refine g_goto (tgt := 58) C dX5_against_54 (by decide) ?_
              exact hj9 (1 : Int32) hf
      · refine g_iconst C dX5_against_21 ic_m1 ?_
        exact g_retiW hf hret dX5_against_22
