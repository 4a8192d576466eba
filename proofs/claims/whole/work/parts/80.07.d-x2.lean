/-! X2_learn -/
theorem in_X2_learn_X2 : ∀ q ∈ u_ws RX2 TX2 12, q ∈ wsX2_learn := by decide +kernel
theorem in_X2_learn_X3 : ∀ q ∈ u_ws RX3 TX3 11, q ∈ wsX2_learn := by decide +kernel
theorem lk_X2_learn_0 : Cond.fieldLink RX2 53 "EmptyHouse$Village" "debts" "I" ∈ wsX2_learn := by decide +kernel
theorem lk_X2_learn_1 : Cond.fieldLink RX2 9 "EmptyHouse$Rounds" "debts" "I" ∈ wsX2_learn := by decide +kernel
theorem lk_X2_learn_2 : Cond.fieldLink RX2 15 "EmptyHouse$Rounds" "all" "I" ∈ wsX2_learn := by decide +kernel
theorem lk_X2_learn_3 : Cond.fieldLink RX2 18 "EmptyHouse$Rounds" "fits" "[Z" ∈ wsX2_learn := by decide +kernel
theorem lk_X2_learn_4 : Cond.fieldLink RX2 22 "EmptyHouse$Rounds" "rate" "[I" ∈ wsX2_learn := by decide +kernel
theorem lk_X2_learn_5 : Cond.fieldLink RX2 60 "EmptyHouse$Village" "interest" "[I" ∈ wsX2_learn := by decide +kernel
theorem ddX2_learn : yX2_learn.cls = RX2 ∧ yX2_learn.cls ≠ "java/lang/invoke/MethodHandle" ∧ yX2_learn.cls ≠ "java/lang/invoke/VarHandle" ∧ (parseMethodDescriptor yX2_learn.desc).map (fun d => d.parameters.length) = some 1 := by decide +kernel
set_option maxHeartbeats 4000000 in
set_option maxRecDepth 100000 in
theorem lX2_learn_35_ok {h : Nat → Nat} {X : Cx} {l0 : Launch} {D0 : va_G} {K0 : Nat → ClassId} (σ : pS) (p1 : Nat) (p2 : Int32) {k64 : Int32 → Option (Unit × pS)} {r : Unit} {u : pS} (C : Cok wX h X l0 ({ frames := 1, cells := 0, slots := 0, locals := 22 } : Room) D0 K0 cX2_learn 6 RX2 wsX2_learn) (hret : ∀ (pc : Nat) (lv' : List (Nat × Value)), decode cX2_learn pc = .ok (.return_, 1) → G wX h X pc lv' [] u) (hk64 : ∀ (z3 : Int32), k64 z3 = some (r, u) → G wX h X 64 [(0, .ref (h 3)), (1, .ref (h p1)), (2, .int p2), (3, .int z3)] [] σ) : ∀ (F : Nat) (v3 : Int32) (v4 : Int32), lX2_learn_35 σ p1 p2 k64 F v3 v4 = some (r, u) → G wX h X 35 [(0, .ref (h 3)), (1, .ref (h p1)), (2, .int p2), (3, .int v3), (4, .int v4)] [] σ := by
  intro F
  induction F with
  | zero => intro v3 v4 hf; exact absurd hf (by simp [lX2_learn_35])
  | succ F ih =>
    intro v3 v4 hf
    rw [lX2_learn_35.eq_2] at hf
    refine g_iload C 4 dX2_learn_35 rfl ?_
    refine g_iload_n C 2 dX2_learn_37 rfl rfl ?_
    refine g_icmp_ge (tgt := 64) hf C dX2_learn_38 (by decide) (fun hf => ?_) (fun hf => ?_)
    · refine g_lv [0, 1, 2, 3] rfl ?_
      exact hk64 v3 hf
    · refine g_aload_n C 1 dX2_learn_41 rfl rfl ?_
      refine g_iload_n C 2 dX2_learn_42 rfl rfl ?_
      refine g_iload C 4 dX2_learn_43 rfl ?_
      obtain ⟨hg4, hf⟩ := g_guard hf
      obtain ⟨r6, hc5, hf⟩ := g_bind hf
      refine g_callVi C (mX3_clash l0 D0 K0 h σ p1 p2 v4 hc5) gX2_learn_X3_clash rfl rfl rfl ddX3_clash ⟨(Nat.le_of_ble_eq_true rfl), (Nat.le_of_ble_eq_true rfl)⟩ (shV hg4) (ltV hg4) rfl rfl rfl (Nat.le_of_ble_eq_true rfl) dX2_learn_45 ?_
      refine g_if_eq (tgt := 58) hf C dX2_learn_48 (by decide) (fun hf => ?_) (fun hf => ?_)
      · refine g_iinc C 4 [1, 2, 3, 4, 0] dX2_learn_58 rfl ic_1 (Nat.le_of_ble_eq_true rfl) rfl ?_
        refine g_goto (tgt := 35) C dX2_learn_61 (by decide) ?_
        exact ih v3 (v4 + (1 : Int32)) hf
      · refine g_iload_n C 3 dX2_learn_51 rfl rfl ?_
        refine g_iconst C dX2_learn_52 ic_1 ?_
        refine g_iload C 4 dX2_learn_53 rfl ?_
        refine g_ishl C dX2_learn_55 ?_
        refine g_ior C dX2_learn_56 ?_
        refine g_leti hf (fun x7 hf => ?_)
        refine g_istore_n C [1, 2, 3, 0, 4] dX2_learn_57 rfl (Nat.le_of_ble_eq_true rfl) rfl ?_
        refine g_iinc C 4 [1, 2, 3, 4, 0] dX2_learn_58 rfl ic_1 (Nat.le_of_ble_eq_true rfl) rfl ?_
        refine g_goto (tgt := 35) C dX2_learn_61 (by decide) ?_
        exact ih x7 (v4 + (1 : Int32)) hf
set_option maxHeartbeats 4000000 in
set_option maxRecDepth 100000 in
theorem lX2_learn_72_ok {h : Nat → Nat} {X : Cx} {l0 : Launch} {D0 : va_G} {K0 : Nat → ClassId} (p1 : Nat) (p2 : Int32) (p3 : Int32) (p4 : Int32) {k141 : pS → Option (Unit × pS)} {r : Unit} {u : pS} (C : Cok wX h X l0 ({ frames := 1, cells := 0, slots := 0, locals := 22 } : Room) D0 K0 cX2_learn 6 RX2 wsX2_learn) (hret : ∀ (pc : Nat) (lv' : List (Nat × Value)), decode cX2_learn pc = .ok (.return_, 1) → G wX h X pc lv' [] u) (hk141 : ∀  (σ : pS), k141 σ = some (r, u) → G wX h X 141 [(0, .ref (h 3)), (1, .ref (h p1)), (2, .int p2)] [] σ) : ∀ (F : Nat) (v5 : Int32) (σ : pS), lX2_learn_72 p1 p2 p3 p4 k141 F v5 σ = some (r, u) → G wX h X 72 [(0, .ref (h 3)), (1, .ref (h p1)), (2, .int p2), (3, .int p3), (4, .int p4), (5, .int v5)] [] σ := by
  intro F
  induction F with
  | zero => intro v5 σ hf; exact absurd hf (by simp [lX2_learn_72])
  | succ F ih =>
    intro v5 σ hf
    rw [lX2_learn_72.eq_2] at hf
    refine g_iload C 5 dX2_learn_72 rfl ?_
    refine g_iload C 4 dX2_learn_74 rfl ?_
    refine g_icmp_ge (tgt := 141) hf C dX2_learn_76 (by decide) (fun hf => ?_) (fun hf => ?_)
    · refine g_lv [0, 1, 2] rfl ?_
      exact hk141 σ hf
    · refine g_aload_n C 0 dX2_learn_79 rfl rfl ?_
      refine g_getC (n := 12) C in_X2_learn_X2 (k := 2) lk_X2_learn_3 rfl (Nat.le_of_ble_eq_true rfl) rfl (Nat.le_of_ble_eq_true rfl) rfl dX2_learn_80 ?_
      refine g_iload C 4 dX2_learn_83 rfl ?_
      refine g_iload C 5 dX2_learn_85 rfl ?_
      refine g_ior C dX2_learn_87 ?_
      refine g_aload_n C 0 dX2_learn_88 rfl rfl ?_
      refine g_getC (n := 12) C in_X2_learn_X2 (k := 2) lk_X2_learn_3 rfl (Nat.le_of_ble_eq_true rfl) rfl (Nat.le_of_ble_eq_true rfl) rfl dX2_learn_89 ?_
      refine g_iload C 5 dX2_learn_92 rfl ?_
      refine g_zald hf C rfl (Nat.le_of_ble_eq_true rfl) dX2_learn_94 (fun hf => ?_)
      refine g_join (P := fun j => ∀ (y11 : Int32), j y11 = some (r, u) → G wX h X 110 [(0, .ref (h 3)), (1, .ref (h p1)), (2, .int p2), (3, .int p3), (4, .int p4), (5, .int v5)] [.int y11, .int (p4 ||| v5), .ref (h 12)] σ) hf (fun y11 hf => ?_) (fun j10 hj10 hf => ?_)
      · refine g_zast hf C rfl (Nat.le_of_ble_eq_true rfl) dX2_learn_110 (fun hf => ?_)
        refine g_lets hf (fun σ12 hf => ?_)
        refine g_aload_n C 0 dX2_learn_111 rfl rfl ?_
        refine g_getC (n := 13) C in_X2_learn_X2 (k := 3) lk_X2_learn_4 rfl (Nat.le_of_ble_eq_true rfl) rfl (Nat.le_of_ble_eq_true rfl) rfl dX2_learn_112 ?_
        refine g_iload C 4 dX2_learn_115 rfl ?_
        refine g_iload C 5 dX2_learn_117 rfl ?_
        refine g_ior C dX2_learn_119 ?_
        refine g_aload_n C 0 dX2_learn_120 rfl rfl ?_
        refine g_getC (n := 13) C in_X2_learn_X2 (k := 3) lk_X2_learn_4 rfl (Nat.le_of_ble_eq_true rfl) rfl (Nat.le_of_ble_eq_true rfl) rfl dX2_learn_121 ?_
        refine g_iload C 5 dX2_learn_124 rfl ?_
        refine g_iald hf C rfl (Nat.le_of_ble_eq_true rfl) dX2_learn_126 (fun hf => ?_)
        refine g_aload_n C 1 dX2_learn_127 rfl rfl ?_
        obtain ⟨hg13, hf⟩ := g_guard hf
        refine g_getC (n := p1 + 8) C in_X2_learn_X3 (k := 10) lk_X2_learn_5 rfl (Nat.le_of_ble_eq_true rfl) (shV hg13) (ltV hg13) rfl dX2_learn_128 ?_
        refine g_iload_n C 2 dX2_learn_131 rfl rfl ?_
        refine g_iald hf C (shV8 hg13).1 (shV8 hg13).2 dX2_learn_132 (fun hf => ?_)
        refine g_iadd C dX2_learn_133 ?_
        refine g_iast hf C rfl (Nat.le_of_ble_eq_true rfl) dX2_learn_134 (fun hf => ?_)
        refine g_lets hf (fun σ14 hf => ?_)
        refine g_iinc C 5 [1, 2, 3, 4, 5, 0] dX2_learn_135 rfl ic_1 (Nat.le_of_ble_eq_true rfl) rfl ?_
        refine g_goto (tgt := 72) C dX2_learn_138 (by decide) ?_
        exact ih (v5 + (1 : Int32)) σ14 hf
      · refine g_if_eq (tgt := 109) hf C dX2_learn_95 (by decide) (fun hf => ?_) (fun hf => ?_)
        · refine g_iconst C dX2_learn_109 ic_0 ?_
          exact hj10 (0 : Int32) hf
        · refine g_iload C 5 dX2_learn_98 rfl ?_
          refine g_iload_n C 3 dX2_learn_100 rfl rfl ?_
          refine g_iand C dX2_learn_101 ?_
          refine g_if_ne (tgt := 109) hf C dX2_learn_102 (by decide) (fun hf => ?_) (fun hf => ?_)
          · refine g_iconst C dX2_learn_109 ic_0 ?_
            exact hj10 (0 : Int32) hf
          · refine g_iconst C dX2_learn_105 ic_1 ?_
            refine g_goto (tgt := 110) C dX2_learn_106 (by decide) ?_
            exact hj10 (1 : Int32) hf
set_option maxHeartbeats 4000000 in
set_option maxRecDepth 100000 in
theorem lX2_learn_22_ok {h : Nat → Nat} {X : Cx} {l0 : Launch} {D0 : va_G} {K0 : Nat → ClassId} (p1 : Nat) {k147 : pS → Option (Unit × pS)} {r : Unit} {u : pS} (C : Cok wX h X l0 ({ frames := 1, cells := 0, slots := 0, locals := 22 } : Room) D0 K0 cX2_learn 6 RX2 wsX2_learn) (hret : ∀ (pc : Nat) (lv' : List (Nat × Value)), decode cX2_learn pc = .ok (.return_, 1) → G wX h X pc lv' [] u) (hk147 : ∀  (σ : pS), k147 σ = some (r, u) → G wX h X 147 [] [] σ) : ∀ (F : Nat) (v2 : Int32) (σ : pS), lX2_learn_22 p1 k147 F v2 σ = some (r, u) → G wX h X 22 [(0, .ref (h 3)), (1, .ref (h p1)), (2, .int v2)] [] σ := by
  intro F
  induction F with
  | zero => intro v2 σ hf; exact absurd hf (by simp [lX2_learn_22])
  | succ F ih =>
    intro v2 σ hf
    rw [lX2_learn_22.eq_2] at hf
    refine g_iload_n C 2 dX2_learn_22 rfl rfl ?_
    refine g_aload_n C 0 dX2_learn_23 rfl rfl ?_
    refine g_getI C in_X2_learn_X2 (k := 0) lk_X2_learn_1 rfl (Nat.le_of_ble_eq_true rfl) rfl (Nat.le_of_ble_eq_true rfl) rfl dX2_learn_24 ?_
    refine g_icmp_ge (tgt := 147) hf C dX2_learn_27 (by decide) (fun hf => ?_) (fun hf => ?_)
    · refine g_lv [] rfl ?_
      exact hk147 σ hf
    · refine g_iconst C dX2_learn_30 ic_0 ?_
      refine g_istore_n C [1, 2, 3, 0] dX2_learn_31 rfl (Nat.le_of_ble_eq_true rfl) rfl ?_
      refine g_iconst C dX2_learn_32 ic_0 ?_
      refine g_istore C [1, 2, 3, 4, 0] dX2_learn_33 (Nat.le_of_ble_eq_true rfl) rfl ?_
      refine lX2_learn_35_ok σ p1 v2 C hret (fun y8 hf => ?_) FU (0 : Int32) (0 : Int32) hf
      refine g_iconst C dX2_learn_64 ic_1 ?_
      refine g_iload_n C 2 dX2_learn_65 rfl rfl ?_
      refine g_ishl C dX2_learn_66 ?_
      refine g_leti hf (fun x9 hf => ?_)
      refine g_istore C [1, 2, 3, 4, 0] dX2_learn_67 (Nat.le_of_ble_eq_true rfl) rfl ?_
      refine g_iconst C dX2_learn_69 ic_0 ?_
      refine g_istore C [1, 2, 3, 4, 5, 0] dX2_learn_70 (Nat.le_of_ble_eq_true rfl) rfl ?_
      refine lX2_learn_72_ok p1 v2 y8 x9 C hret (fun σ15 hf => ?_) FU (0 : Int32) σ hf
      refine g_iinc C 2 [1, 2, 0] dX2_learn_141 rfl ic_1 (Nat.le_of_ble_eq_true rfl) rfl ?_
      refine g_goto (tgt := 22) C dX2_learn_144 (by decide) ?_
      exact ih (v2 + (1 : Int32)) σ15 hf
set_option maxHeartbeats 4000000 in
set_option maxRecDepth 100000 in
theorem mX2_learn (l0 : Launch) (D0 : va_G) (K0 : Nat → ClassId) (h : Nat → Nat) (σ : pS) (a1 : Nat) {r : Unit} {u : pS} (hf : fX2_learn σ a1 = some (r, u)) : Met l0 yX2_learn wsX2_learn ({ frames := 1, cells := 0, slots := 0, locals := 22 } : Room) (va_Pc [.ref (h 3), .ref (h a1)] (pIn wX D0 K0 h σ)) (va_Qv (fun u' => u' = u) (pOut wX D0 K0 h) (pA wX h)) 0 0 (pA wX h) := by
  refine p_metV (lv := [(0, .ref (h 3)), (1, .ref (h a1))]) (by decide +kernel) rfl rfl (Nat.le_of_ble_eq_true rfl) rfl (fun X C hret => ?_)
  unfold fX2_learn at hf
  refine g_aload_n C 0 dX2_learn_0 rfl rfl ?_
  refine g_aload_n C 1 dX2_learn_1 rfl rfl ?_
  obtain ⟨hg1, hf⟩ := g_guard hf
  refine g_getI C in_X2_learn_X3 (k := 1) lk_X2_learn_0 rfl (Nat.le_of_ble_eq_true rfl) (shV hg1) (ltV hg1) rfl dX2_learn_2 ?_
  refine g_putI C in_X2_learn_X2 (k := 0) lk_X2_learn_1 rfl (Nat.le_of_ble_eq_true rfl) rfl (Nat.le_of_ble_eq_true rfl) tyX2 tyX2_ok nmX2 rfl rfl rfl rfl dX2_learn_5 ?_
  refine g_lets hf (fun σ2 hf => ?_)
  refine g_aload_n C 0 dX2_learn_8 rfl rfl ?_
  refine g_iconst C dX2_learn_9 ic_1 ?_
  refine g_aload_n C 0 dX2_learn_10 rfl rfl ?_
  refine g_getI C in_X2_learn_X2 (k := 0) lk_X2_learn_1 rfl (Nat.le_of_ble_eq_true rfl) rfl (Nat.le_of_ble_eq_true rfl) rfl dX2_learn_11 ?_
  refine g_ishl C dX2_learn_14 ?_
  refine g_iconst C dX2_learn_15 ic_1 ?_
  refine g_isub C dX2_learn_16 ?_
  refine g_putI C in_X2_learn_X2 (k := 1) lk_X2_learn_2 rfl (Nat.le_of_ble_eq_true rfl) rfl (Nat.le_of_ble_eq_true rfl) tyX2 tyX2_ok nmX2 rfl rfl rfl rfl dX2_learn_17 ?_
  refine g_lets hf (fun σ3 hf => ?_)
  refine g_iconst C dX2_learn_20 ic_0 ?_
  refine g_istore_n C [1, 2, 0] dX2_learn_21 rfl (Nat.le_of_ble_eq_true rfl) rfl ?_
  refine lX2_learn_22_ok a1 C hret (fun σ16 hf => ?_) FU (0 : Int32) σ3 hf
  exact g_retvW hf hret dX2_learn_147
/-! X2_mostAtOnce -/
theorem in_X2_mostAtOnce_X2 : ∀ q ∈ u_ws RX2 TX2 12, q ∈ wsX2_mostAtOnce := by decide +kernel
theorem lk_X2_mostAtOnce_0 : Cond.fieldLink RX2 15 "EmptyHouse$Rounds" "all" "I" ∈ wsX2_mostAtOnce := by decide +kernel
theorem lk_X2_mostAtOnce_1 : Cond.fieldLink RX2 18 "EmptyHouse$Rounds" "fits" "[Z" ∈ wsX2_mostAtOnce := by decide +kernel
theorem lk_X2_mostAtOnce_2 : Cond.methodLink RX2 69 Lib.Math.max.name ∈ wsX2_mostAtOnce := by decide +kernel
theorem lk_X2_mostAtOnce_3 : Cond.static Lib.Math.max.name ∈ wsX2_mostAtOnce := by decide +kernel
theorem lk_X2_mostAtOnce_4 : Cond.initialized "java/lang/Math" ∈ wsX2_mostAtOnce := by decide +kernel
theorem lk_X2_mostAtOnce_5 : Cond.code Lib.Math.max.name Lib.Math.max.code 2 (some .int) ∈ wsX2_mostAtOnce := by decide +kernel
theorem ddX2_mostAtOnce : yX2_mostAtOnce.cls = RX2 ∧ yX2_mostAtOnce.cls ≠ "java/lang/invoke/MethodHandle" ∧ yX2_mostAtOnce.cls ≠ "java/lang/invoke/VarHandle" ∧ (parseMethodDescriptor yX2_mostAtOnce.desc).map (fun d => d.parameters.length) = some 1 := by decide +kernel
set_option maxHeartbeats 4000000 in
set_option maxRecDepth 100000 in
theorem lX2_mostAtOnce_9_ok {h : Nat → Nat} {X : Cx} {l0 : Launch} {D0 : va_G} {K0 : Nat → ClassId} (σ : pS) (p1 : Int32) {k40 : Int32 → Option Int32} {r : Int32} (C : Cok wX h X l0 ({ frames := 1, cells := 0, slots := 0, locals := 21 } : Room) D0 K0 cX2_mostAtOnce 4 RX2 wsX2_mostAtOnce) (hret : ∀ (pc : Nat) (lv' : List (Nat × Value)), decode cX2_mostAtOnce pc = .ok (.ireturn, 1) → G wX h X pc lv' [.int r] σ) (hk40 : ∀ (z2 : Int32), k40 z2 = some r → G wX h X 40 [(2, .int z2)] [] σ) : ∀ (F : Nat) (v2 : Int32) (v3 : Int32), lX2_mostAtOnce_9 σ p1 k40 F v2 v3 = some r → G wX h X 9 [(0, .ref (h 3)), (1, .int p1), (2, .int v2), (3, .int v3)] [] σ := by
  intro F
  induction F with
  | zero => intro v2 v3 hf; exact absurd hf (by simp [lX2_mostAtOnce_9])
  | succ F ih =>
    intro v2 v3 hf
    rw [lX2_mostAtOnce_9.eq_2] at hf
    refine g_iload_n C 3 dX2_mostAtOnce_9 rfl rfl ?_
    refine g_if_le (tgt := 40) hf C dX2_mostAtOnce_10 (by decide) (fun hf => ?_) (fun hf => ?_)
    · refine g_lv [2] rfl ?_
      exact hk40 v2 hf
    · refine g_aload_n C 0 dX2_mostAtOnce_13 rfl rfl ?_
      refine g_getC (n := 12) C in_X2_mostAtOnce_X2 (k := 2) lk_X2_mostAtOnce_1 rfl (Nat.le_of_ble_eq_true rfl) rfl (Nat.le_of_ble_eq_true rfl) rfl dX2_mostAtOnce_14 ?_
      refine g_iload_n C 3 dX2_mostAtOnce_17 rfl rfl ?_
      refine g_zald hf C rfl (Nat.le_of_ble_eq_true rfl) dX2_mostAtOnce_18 (fun hf => ?_)
      refine g_join (P := fun j => ∀ (y3 : Int32), j y3 = some r → G wX h X 31 [(0, .ref (h 3)), (1, .int p1), (2, .int y3), (3, .int v3)] [] σ) hf (fun y3 hf => ?_) (fun j2 hj2 hf => ?_)
      · refine g_iload_n C 3 dX2_mostAtOnce_31 rfl rfl ?_
        refine g_iconst C dX2_mostAtOnce_32 ic_1 ?_
        refine g_isub C dX2_mostAtOnce_33 ?_
        refine g_iload_n C 1 dX2_mostAtOnce_34 rfl rfl ?_
        refine g_iand C dX2_mostAtOnce_35 ?_
        refine g_leti hf (fun x4 hf => ?_)
        refine g_istore_n C [1, 2, 3, 0] dX2_mostAtOnce_36 rfl (Nat.le_of_ble_eq_true rfl) rfl ?_
        refine g_goto (tgt := 9) C dX2_mostAtOnce_37 (by decide) ?_
        exact ih y3 x4 hf
      · refine g_if_eq (tgt := 31) hf C dX2_mostAtOnce_19 (by decide) (fun hf => ?_) (fun hf => ?_)
        · exact hj2 v2 hf
        · refine g_iload_n C 2 dX2_mostAtOnce_22 rfl rfl ?_
          refine g_iload_n C 3 dX2_mostAtOnce_23 rfl rfl ?_
          obtain ⟨r6, hc5, hf⟩ := g_bind hf
          refine g_callSi C (mJ6_bitCount_0f7a4 l0 D0 K0 h σ v3 hc5) gX2_mostAtOnce_J6_bitCount_0f7a4 rfl rfl rfl ddJ6_bitCount_0f7a4 ⟨(Nat.le_of_ble_eq_true rfl), (Nat.le_of_ble_eq_true rfl)⟩ rfl rfl (Nat.le_of_ble_eq_true rfl) dX2_mostAtOnce_24 ?_
          refine g_mmax C lk_X2_mostAtOnce_2 lk_X2_mostAtOnce_3 lk_X2_mostAtOnce_4 lk_X2_mostAtOnce_5 (Nat.le_of_ble_eq_true rfl) (Nat.le_of_ble_eq_true rfl) dX2_mostAtOnce_27 ?_
          refine g_leti hf (fun x7 hf => ?_)
          refine g_istore_n C [1, 2, 0, 3] dX2_mostAtOnce_30 rfl (Nat.le_of_ble_eq_true rfl) rfl ?_
          exact hj2 x7 hf
set_option maxHeartbeats 4000000 in
set_option maxRecDepth 100000 in
theorem mX2_mostAtOnce (l0 : Launch) (D0 : va_G) (K0 : Nat → ClassId) (h : Nat → Nat) (σ : pS) (a1 : Int32) {r : Int32} (hf : fX2_mostAtOnce σ a1 = some r) : Met l0 yX2_mostAtOnce wsX2_mostAtOnce ({ frames := 1, cells := 0, slots := 0, locals := 21 } : Room) (va_Pc [.ref (h 3), .int a1] (pIn wX D0 K0 h σ)) (va_Qi (fun r' u' => r' = r ∧ u' = σ) (pOut wX D0 K0 h) (pA wX h)) 0 0 (pA wX h) := by
  refine p_metI (lv := [(0, .ref (h 3)), (1, .int a1)]) (by decide +kernel) rfl rfl (Nat.le_of_ble_eq_true rfl) rfl (fun X C hret => ?_)
  unfold fX2_mostAtOnce at hf
  refine g_iconst C dX2_mostAtOnce_0 ic_0 ?_
  refine g_istore_n C [1, 2, 0] dX2_mostAtOnce_1 rfl (Nat.le_of_ble_eq_true rfl) rfl ?_
  refine g_iload_n C 1 dX2_mostAtOnce_2 rfl rfl ?_
  refine g_aload_n C 0 dX2_mostAtOnce_3 rfl rfl ?_
  refine g_getI C in_X2_mostAtOnce_X2 (k := 1) lk_X2_mostAtOnce_0 rfl (Nat.le_of_ble_eq_true rfl) rfl (Nat.le_of_ble_eq_true rfl) rfl dX2_mostAtOnce_4 ?_
  refine g_iand C dX2_mostAtOnce_7 ?_
  refine g_leti hf (fun x1 hf => ?_)
  refine g_istore_n C [1, 2, 3, 0] dX2_mostAtOnce_8 rfl (Nat.le_of_ble_eq_true rfl) rfl ?_
  refine lX2_mostAtOnce_9_ok σ a1 C hret (fun y8 hf => ?_) FU (0 : Int32) x1 hf
  refine g_iload_n C 0 dX2_mostAtOnce_40 rfl rfl ?_
  exact g_reti hf hret dX2_mostAtOnce_41
/-! X2_lossBy -/
theorem in_X2_lossBy_X2 : ∀ q ∈ u_ws RX2 TX2 12, q ∈ wsX2_lossBy := by decide +kernel
theorem lk_X2_lossBy_0 : Cond.fieldLink RX2 22 "EmptyHouse$Rounds" "rate" "[I" ∈ wsX2_lossBy := by decide +kernel
theorem lk_X2_lossBy_1 : Cond.fieldLink RX2 31 "EmptyHouse$Rounds" "restLoss" "[[I" ∈ wsX2_lossBy := by decide +kernel
theorem ddX2_lossBy : yX2_lossBy.cls = RX2 ∧ yX2_lossBy.cls ≠ "java/lang/invoke/MethodHandle" ∧ yX2_lossBy.cls ≠ "java/lang/invoke/VarHandle" ∧ (parseMethodDescriptor yX2_lossBy.desc).map (fun d => d.parameters.length) = some 3 := by decide +kernel
set_option maxHeartbeats 4000000 in
set_option maxRecDepth 100000 in
theorem mX2_lossBy (l0 : Launch) (D0 : va_G) (K0 : Nat → ClassId) (h : Nat → Nat) (σ : pS) (a1 : Int32) (a2 : Int32) (a3 : Int32) {r : Int32} (hf : fX2_lossBy σ a1 a2 a3 = some r) : Met l0 yX2_lossBy wsX2_lossBy ({ frames := 0, cells := 0, slots := 0, locals := 0 } : Room) (va_Pc [.ref (h 3), .int a1, .int a2, .int a3] (pIn wX D0 K0 h σ)) (va_Qi (fun r' u' => r' = r ∧ u' = σ) (pOut wX D0 K0 h) (pA wX h)) 0 0 (pA wX h) := by
  refine p_metI (lv := [(0, .ref (h 3)), (1, .int a1), (2, .int a2), (3, .int a3)]) (by decide +kernel) rfl rfl (Nat.le_of_ble_eq_true rfl) rfl (fun X C hret => ?_)
  unfold fX2_lossBy at hf
  refine g_iload_n C 1 dX2_lossBy_0 rfl rfl ?_
  refine g_aload_n C 0 dX2_lossBy_1 rfl rfl ?_
  refine g_getC (n := 13) C in_X2_lossBy_X2 (k := 3) lk_X2_lossBy_0 rfl (Nat.le_of_ble_eq_true rfl) rfl (Nat.le_of_ble_eq_true rfl) rfl dX2_lossBy_2 ?_
  refine g_iload_n C 3 dX2_lossBy_5 rfl rfl ?_
  refine g_iald hf C rfl (Nat.le_of_ble_eq_true rfl) dX2_lossBy_6 (fun hf => ?_)
  refine g_imul C dX2_lossBy_7 ?_
  refine g_aload_n C 0 dX2_lossBy_8 rfl rfl ?_
  refine g_getC (n := 15) C in_X2_lossBy_X2 (k := 5) lk_X2_lossBy_1 rfl (Nat.le_of_ble_eq_true rfl) rfl (Nat.le_of_ble_eq_true rfl) rfl dX2_lossBy_9 ?_
  refine g_iload_n C 1 dX2_lossBy_12 rfl rfl ?_
  refine g_iconst C dX2_lossBy_13 ic_1 ?_
  refine g_iadd C dX2_lossBy_14 ?_
  refine g_aald hf C rfl (by decide) (Nat.le_of_ble_eq_true rfl) dX2_lossBy_15 (fun hp1 hf => ?_)
  refine g_iload_n C 2 dX2_lossBy_16 rfl rfl ?_
  refine g_iload_n C 3 dX2_lossBy_17 rfl rfl ?_
  refine g_ior C dX2_lossBy_18 ?_
  refine g_iald hf C (sh_rest _ (pin_lt hp1)).1 (sh_rest _ (pin_lt hp1)).2 dX2_lossBy_19 (fun hf => ?_)
  refine g_iadd C dX2_lossBy_20 ?_
  exact g_reti hf hret dX2_lossBy_21
/-! X2_lossFrom -/
theorem in_X2_lossFrom_X2 : ∀ q ∈ u_ws RX2 TX2 12, q ∈ wsX2_lossFrom := by decide +kernel
theorem lk_X2_lossFrom_0 : Cond.fieldLink RX2 26 "EmptyHouse$Rounds" "payable" "[I" ∈ wsX2_lossFrom := by decide +kernel
theorem lk_X2_lossFrom_1 : Cond.fieldLink RX2 31 "EmptyHouse$Rounds" "restLoss" "[[I" ∈ wsX2_lossFrom := by decide +kernel
theorem lk_X2_lossFrom_2 : Cond.fieldLink RX2 18 "EmptyHouse$Rounds" "fits" "[Z" ∈ wsX2_lossFrom := by decide +kernel
theorem lk_X2_lossFrom_3 : Cond.methodLink RX2 92 Lib.Math.min.name ∈ wsX2_lossFrom := by decide +kernel
theorem lk_X2_lossFrom_4 : Cond.static Lib.Math.min.name ∈ wsX2_lossFrom := by decide +kernel
theorem lk_X2_lossFrom_5 : Cond.initialized "java/lang/Math" ∈ wsX2_lossFrom := by decide +kernel
theorem lk_X2_lossFrom_6 : Cond.code Lib.Math.min.name Lib.Math.min.code 2 (some .int) ∈ wsX2_lossFrom := by decide +kernel
theorem ddX2_lossFrom : yX2_lossFrom.cls = RX2 ∧ yX2_lossFrom.cls ≠ "java/lang/invoke/MethodHandle" ∧ yX2_lossFrom.cls ≠ "java/lang/invoke/VarHandle" ∧ (parseMethodDescriptor yX2_lossFrom.desc).map (fun d => d.parameters.length) = some 2 := by decide +kernel
set_option maxHeartbeats 4000000 in
set_option maxRecDepth 100000 in
theorem lX2_lossFrom_26_ok {h : Nat → Nat} {X : Cx} {l0 : Launch} {D0 : va_G} {K0 : Nat → ClassId} (σ : pS) (p1 : Int32) (p2 : Int32) (p3 : Int32) {k67 : Int32 → Option Int32} {r : Int32} (C : Cok wX h X l0 ({ frames := 1, cells := 0, slots := 0, locals := 23 } : Room) D0 K0 cX2_lossFrom 6 RX2 wsX2_lossFrom) (hret : ∀ (pc : Nat) (lv' : List (Nat × Value)), decode cX2_lossFrom pc = .ok (.ireturn, 1) → G wX h X pc lv' [.int r] σ) (hk67 : ∀ (z4 : Int32), k67 z4 = some r → G wX h X 67 [(4, .int z4)] [] σ) : ∀ (F : Nat) (v4 : Int32) (v5 : Int32), lX2_lossFrom_26 σ p1 p2 p3 k67 F v4 v5 = some r → G wX h X 26 [(0, .ref (h 3)), (1, .int p1), (2, .int p2), (3, .int p3), (4, .int v4), (5, .int v5)] [] σ := by
  intro F
  induction F with
  | zero => intro v4 v5 hf; exact absurd hf (by simp [lX2_lossFrom_26])
  | succ F ih =>
    intro v4 v5 hf
    rw [lX2_lossFrom_26.eq_2] at hf
    refine g_iload C 5 dX2_lossFrom_26 rfl ?_
    refine g_if_le (tgt := 67) hf C dX2_lossFrom_28 (by decide) (fun hf => ?_) (fun hf => ?_)
    · refine g_lv [4] rfl ?_
      exact hk67 v4 hf
    · refine g_aload_n C 0 dX2_lossFrom_31 rfl rfl ?_
      refine g_getC (n := 12) C in_X2_lossFrom_X2 (k := 2) lk_X2_lossFrom_2 rfl (Nat.le_of_ble_eq_true rfl) rfl (Nat.le_of_ble_eq_true rfl) rfl dX2_lossFrom_32 ?_
      refine g_iload C 5 dX2_lossFrom_35 rfl ?_
      refine g_zald hf C rfl (Nat.le_of_ble_eq_true rfl) dX2_lossFrom_37 (fun hf => ?_)
      refine g_join (P := fun j => ∀ (y5 : Int32), j y5 = some r → G wX h X 56 [(0, .ref (h 3)), (1, .int p1), (2, .int p2), (3, .int p3), (4, .int y5), (5, .int v5)] [] σ) hf (fun y5 hf => ?_) (fun j4 hj4 hf => ?_)
      · refine g_iload C 5 dX2_lossFrom_56 rfl ?_
        refine g_iconst C dX2_lossFrom_58 ic_1 ?_
        refine g_isub C dX2_lossFrom_59 ?_
        refine g_iload_n C 3 dX2_lossFrom_60 rfl rfl ?_
        refine g_iand C dX2_lossFrom_61 ?_
        refine g_leti hf (fun x6 hf => ?_)
        refine g_istore C [1, 2, 3, 4, 5, 0] dX2_lossFrom_62 (Nat.le_of_ble_eq_true rfl) rfl ?_
        refine g_goto (tgt := 26) C dX2_lossFrom_64 (by decide) ?_
        exact ih y5 x6 hf
      · refine g_if_eq (tgt := 56) hf C dX2_lossFrom_38 (by decide) (fun hf => ?_) (fun hf => ?_)
        · exact hj4 v4 hf
        · refine g_iload C 4 dX2_lossFrom_41 rfl ?_
          refine g_aload_n C 0 dX2_lossFrom_43 rfl rfl ?_
          refine g_iload_n C 1 dX2_lossFrom_44 rfl rfl ?_
          refine g_iload_n C 2 dX2_lossFrom_45 rfl rfl ?_
          refine g_iload C 5 dX2_lossFrom_46 rfl ?_
          obtain ⟨r8, hc7, hf⟩ := g_bind hf
          refine g_callVi C (mX2_lossBy l0 D0 K0 h σ p1 p2 v5 hc7) gX2_lossFrom_X2_lossBy rfl rfl rfl ddX2_lossBy ⟨(Nat.le_of_ble_eq_true rfl), (Nat.le_of_ble_eq_true rfl)⟩ rfl (Nat.le_of_ble_eq_true rfl) rfl rfl rfl (Nat.le_of_ble_eq_true rfl) dX2_lossFrom_48 ?_
          refine g_mmin C lk_X2_lossFrom_3 lk_X2_lossFrom_4 lk_X2_lossFrom_5 lk_X2_lossFrom_6 (Nat.le_of_ble_eq_true rfl) (Nat.le_of_ble_eq_true rfl) dX2_lossFrom_51 ?_
          refine g_leti hf (fun x9 hf => ?_)
          refine g_istore C [1, 2, 3, 4, 0, 5] dX2_lossFrom_54 (Nat.le_of_ble_eq_true rfl) rfl ?_
          exact hj4 x9 hf
set_option maxHeartbeats 4000000 in
set_option maxRecDepth 100000 in
theorem mX2_lossFrom (l0 : Launch) (D0 : va_G) (K0 : Nat → ClassId) (h : Nat → Nat) (σ : pS) (a1 : Int32) (a2 : Int32) {r : Int32} (hf : fX2_lossFrom σ a1 a2 = some r) : Met l0 yX2_lossFrom wsX2_lossFrom ({ frames := 1, cells := 0, slots := 0, locals := 23 } : Room) (va_Pc [.ref (h 3), .int a1, .int a2] (pIn wX D0 K0 h σ)) (va_Qi (fun r' u' => r' = r ∧ u' = σ) (pOut wX D0 K0 h) (pA wX h)) 0 0 (pA wX h) := by
  refine p_metI (lv := [(0, .ref (h 3)), (1, .int a1), (2, .int a2)]) (by decide +kernel) rfl rfl (Nat.le_of_ble_eq_true rfl) rfl (fun X C hret => ?_)
  unfold fX2_lossFrom at hf
  refine g_aload_n C 0 dX2_lossFrom_0 rfl rfl ?_
  refine g_getC (n := 14) C in_X2_lossFrom_X2 (k := 4) lk_X2_lossFrom_0 rfl (Nat.le_of_ble_eq_true rfl) rfl (Nat.le_of_ble_eq_true rfl) rfl dX2_lossFrom_1 ?_
  refine g_iload_n C 1 dX2_lossFrom_4 rfl rfl ?_
  refine g_iald hf C rfl (Nat.le_of_ble_eq_true rfl) dX2_lossFrom_5 (fun hf => ?_)
  refine g_iload_n C 2 dX2_lossFrom_6 rfl rfl ?_
  refine g_iconst C dX2_lossFrom_7 ic_m1 ?_
  refine g_ixor C dX2_lossFrom_8 ?_
  refine g_iand C dX2_lossFrom_9 ?_
  refine g_leti hf (fun x1 hf => ?_)
  refine g_istore_n C [1, 2, 3, 0] dX2_lossFrom_10 rfl (Nat.le_of_ble_eq_true rfl) rfl ?_
  refine g_aload_n C 0 dX2_lossFrom_11 rfl rfl ?_
  refine g_getC (n := 15) C in_X2_lossFrom_X2 (k := 5) lk_X2_lossFrom_1 rfl (Nat.le_of_ble_eq_true rfl) rfl (Nat.le_of_ble_eq_true rfl) rfl dX2_lossFrom_12 ?_
  refine g_iload_n C 1 dX2_lossFrom_15 rfl rfl ?_
  refine g_iconst C dX2_lossFrom_16 ic_1 ?_
  refine g_iadd C dX2_lossFrom_17 ?_
  refine g_aald hf C rfl (by decide) (Nat.le_of_ble_eq_true rfl) dX2_lossFrom_18 (fun hp2 hf => ?_)
  refine g_iload_n C 2 dX2_lossFrom_19 rfl rfl ?_
  refine g_iald hf C (sh_rest _ (pin_lt hp2)).1 (sh_rest _ (pin_lt hp2)).2 dX2_lossFrom_20 (fun hf => ?_)
  refine g_leti hf (fun x3 hf => ?_)
  refine g_istore C [1, 2, 3, 4, 0] dX2_lossFrom_21 (Nat.le_of_ble_eq_true rfl) rfl ?_
  refine g_iload_n C 3 dX2_lossFrom_23 rfl rfl ?_
  refine g_istore C [1, 2, 3, 4, 5, 0] dX2_lossFrom_24 (Nat.le_of_ble_eq_true rfl) rfl ?_
  refine lX2_lossFrom_26_ok σ a1 a2 x1 C hret (fun y10 hf => ?_) FU x3 x1 hf
  refine g_iload C 0 dX2_lossFrom_67 rfl ?_
  exact g_reti hf hret dX2_lossFrom_69
/-! X2_solveBackFrom -/
theorem in_X2_solveBackFrom_X2 : ∀ q ∈ u_ws RX2 TX2 12, q ∈ wsX2_solveBackFrom := by decide +kernel
theorem lk_X2_solveBackFrom_0 : Cond.fieldLink RX2 15 "EmptyHouse$Rounds" "all" "I" ∈ wsX2_solveBackFrom := by decide +kernel
theorem lk_X2_solveBackFrom_1 : Cond.fieldLink RX2 31 "EmptyHouse$Rounds" "restLoss" "[[I" ∈ wsX2_solveBackFrom := by decide +kernel
theorem ddX2_solveBackFrom : yX2_solveBackFrom.cls = RX2 ∧ yX2_solveBackFrom.cls ≠ "java/lang/invoke/MethodHandle" ∧ yX2_solveBackFrom.cls ≠ "java/lang/invoke/VarHandle" ∧ (parseMethodDescriptor yX2_solveBackFrom.desc).map (fun d => d.parameters.length) = some 1 := by decide +kernel
set_option maxHeartbeats 4000000 in
set_option maxRecDepth 100000 in
theorem lX2_solveBackFrom_8_ok {h : Nat → Nat} {X : Cx} {l0 : Launch} {D0 : va_G} {K0 : Nat → ClassId} (p2 : Int32) {k36 : pS → Option (Unit × pS)} {r : Unit} {u : pS} (C : Cok wX h X l0 ({ frames := 2, cells := 0, slots := 0, locals := 48 } : Room) D0 K0 cX2_solveBackFrom 4 RX2 wsX2_solveBackFrom) (hret : ∀ (pc : Nat) (lv' : List (Nat × Value)), decode cX2_solveBackFrom pc = .ok (.return_, 1) → G wX h X pc lv' [] u) (hk36 : ∀  (σ : pS), k36 σ = some (r, u) → G wX h X 36 [(0, .ref (h 3)), (2, .int p2)] [] σ) : ∀ (F : Nat) (v3 : Int32) (σ : pS), lX2_solveBackFrom_8 p2 k36 F v3 σ = some (r, u) → G wX h X 8 [(0, .ref (h 3)), (2, .int p2), (3, .int v3)] [] σ := by
  intro F
  induction F with
  | zero => intro v3 σ hf; exact absurd hf (by simp [lX2_solveBackFrom_8])
  | succ F ih =>
    intro v3 σ hf
    rw [lX2_solveBackFrom_8.eq_2] at hf
    refine g_iload_n C 2 dX2_solveBackFrom_8 rfl rfl ?_
    refine g_aload_n C 0 dX2_solveBackFrom_9 rfl rfl ?_
    refine g_getI C in_X2_solveBackFrom_X2 (k := 1) lk_X2_solveBackFrom_0 rfl (Nat.le_of_ble_eq_true rfl) rfl (Nat.le_of_ble_eq_true rfl) rfl dX2_solveBackFrom_10 ?_
    refine g_icmp_gt (tgt := 36) hf C dX2_solveBackFrom_13 (by decide) (fun hf => ?_) (fun hf => ?_)
    · refine g_lv [0, 1] rfl ?_
      exact hk36 σ hf
    · refine g_aload_n C 0 dX2_solveBackFrom_16 rfl rfl ?_
      refine g_getC (n := 15) C in_X2_solveBackFrom_X2 (k := 5) lk_X2_solveBackFrom_1 rfl (Nat.le_of_ble_eq_true rfl) rfl (Nat.le_of_ble_eq_true rfl) rfl dX2_solveBackFrom_17 ?_
      refine g_iload_n C 1 dX2_solveBackFrom_20 rfl rfl ?_
      refine g_aald hf C rfl (by decide) (Nat.le_of_ble_eq_true rfl) dX2_solveBackFrom_21 (fun hp1 hf => ?_)
      refine g_iload_n C 2 dX2_solveBackFrom_22 rfl rfl ?_
      refine g_aload_n C 0 dX2_solveBackFrom_23 rfl rfl ?_
      refine g_iload_n C 1 dX2_solveBackFrom_24 rfl rfl ?_
      refine g_iload_n C 2 dX2_solveBackFrom_25 rfl rfl ?_
      obtain ⟨r3, hc2, hf⟩ := g_bind hf
      refine g_callVi C (mX2_lossFrom l0 D0 K0 h σ p2 v3 hc2) gX2_solveBackFrom_X2_lossFrom rfl rfl rfl ddX2_lossFrom ⟨(Nat.le_of_ble_eq_true rfl), (Nat.le_of_ble_eq_true rfl)⟩ rfl (Nat.le_of_ble_eq_true rfl) rfl rfl rfl (Nat.le_of_ble_eq_true rfl) dX2_solveBackFrom_26 ?_
      refine g_iast hf C (sh_rest _ (pin_lt hp1)).1 (sh_rest _ (pin_lt hp1)).2 dX2_solveBackFrom_29 (fun hf => ?_)
      refine g_lets hf (fun σ4 hf => ?_)
      refine g_iinc C 2 [1, 2, 0] dX2_solveBackFrom_30 rfl ic_1 (Nat.le_of_ble_eq_true rfl) rfl ?_
      refine g_goto (tgt := 8) C dX2_solveBackFrom_33 (by decide) ?_
      exact ih (v3 + (1 : Int32)) σ4 hf
set_option maxHeartbeats 4000000 in
set_option maxRecDepth 100000 in
theorem lX2_solveBackFrom_2_ok {h : Nat → Nat} {X : Cx} {l0 : Launch} {D0 : va_G} {K0 : Nat → ClassId} {k42 : pS → Option (Unit × pS)} {r : Unit} {u : pS} (C : Cok wX h X l0 ({ frames := 2, cells := 0, slots := 0, locals := 48 } : Room) D0 K0 cX2_solveBackFrom 4 RX2 wsX2_solveBackFrom) (hret : ∀ (pc : Nat) (lv' : List (Nat × Value)), decode cX2_solveBackFrom pc = .ok (.return_, 1) → G wX h X pc lv' [] u) (hk42 : ∀  (σ : pS), k42 σ = some (r, u) → G wX h X 42 [] [] σ) : ∀ (F : Nat) (v2 : Int32) (σ : pS), lX2_solveBackFrom_2 k42 F v2 σ = some (r, u) → G wX h X 2 [(0, .ref (h 3)), (2, .int v2)] [] σ := by
  intro F
  induction F with
  | zero => intro v2 σ hf; exact absurd hf (by simp [lX2_solveBackFrom_2])
  | succ F ih =>
    intro v2 σ hf
    rw [lX2_solveBackFrom_2.eq_2] at hf
    refine g_iload_n C 1 dX2_solveBackFrom_2 rfl rfl ?_
    refine g_if_lt (tgt := 42) hf C dX2_solveBackFrom_3 (by decide) (fun hf => ?_) (fun hf => ?_)
    · refine g_lv [] rfl ?_
      exact hk42 σ hf
    · refine g_iconst C dX2_solveBackFrom_6 ic_0 ?_
      refine g_istore_n C [1, 2, 0] dX2_solveBackFrom_7 rfl (Nat.le_of_ble_eq_true rfl) rfl ?_
      refine lX2_solveBackFrom_8_ok v2 C hret (fun σ5 hf => ?_) FU (0 : Int32) σ hf
      refine g_iinc C 1 [1, 0] dX2_solveBackFrom_36 rfl ic_m1 (Nat.le_of_ble_eq_true rfl) rfl ?_
      refine g_goto (tgt := 2) C dX2_solveBackFrom_39 (by decide) ?_
      exact ih (v2 + (-1 : Int32)) σ5 hf
set_option maxHeartbeats 4000000 in
set_option maxRecDepth 100000 in
theorem mX2_solveBackFrom (l0 : Launch) (D0 : va_G) (K0 : Nat → ClassId) (h : Nat → Nat) (σ : pS) (a1 : Int32) {r : Unit} {u : pS} (hf : fX2_solveBackFrom σ a1 = some (r, u)) : Met l0 yX2_solveBackFrom wsX2_solveBackFrom ({ frames := 2, cells := 0, slots := 0, locals := 48 } : Room) (va_Pc [.ref (h 3), .int a1] (pIn wX D0 K0 h σ)) (va_Qv (fun u' => u' = u) (pOut wX D0 K0 h) (pA wX h)) 0 0 (pA wX h) := by
  refine p_metV (lv := [(0, .ref (h 3)), (1, .int a1)]) (by decide +kernel) rfl rfl (Nat.le_of_ble_eq_true rfl) rfl (fun X C hret => ?_)
  unfold fX2_solveBackFrom at hf
  refine g_iload_n C 1 dX2_solveBackFrom_0 rfl rfl ?_
  refine g_istore_n C [1, 0] dX2_solveBackFrom_1 rfl (Nat.le_of_ble_eq_true rfl) rfl ?_
  refine lX2_solveBackFrom_2_ok  C hret (fun σ6 hf => ?_) FU a1 σ hf
  exact g_retvW hf hret dX2_solveBackFrom_42
/-! X2_solve -/
theorem in_X2_solve_X2 : ∀ q ∈ u_ws RX2 TX2 12, q ∈ wsX2_solve := by decide +kernel
theorem lk_X2_solve_0 : Cond.fieldLink RX2 26 "EmptyHouse$Rounds" "payable" "[I" ∈ wsX2_solve := by decide +kernel
theorem lk_X2_solve_1 : Cond.fieldLink RX2 15 "EmptyHouse$Rounds" "all" "I" ∈ wsX2_solve := by decide +kernel
theorem lk_X2_solve_2 : Cond.fieldLink RX2 31 "EmptyHouse$Rounds" "restLoss" "[[I" ∈ wsX2_solve := by decide +kernel
theorem lk_X2_solve_3 : Cond.fieldLink RX2 22 "EmptyHouse$Rounds" "rate" "[I" ∈ wsX2_solve := by decide +kernel
theorem ddX2_solve : yX2_solve.cls = RX2 ∧ yX2_solve.cls ≠ "java/lang/invoke/MethodHandle" ∧ yX2_solve.cls ≠ "java/lang/invoke/VarHandle" ∧ (parseMethodDescriptor yX2_solve.desc).map (fun d => d.parameters.length) = some 1 := by decide +kernel
set_option maxHeartbeats 4000000 in
set_option maxRecDepth 100000 in
theorem lX2_solve_2_ok {h : Nat → Nat} {X : Cx} {l0 : Launch} {D0 : va_G} {K0 : Nat → ClassId} (p1 : Nat) {k30 : pS → Option (Unit × pS)} {r : Unit} {u : pS} (C : Cok wX h X l0 ({ frames := 5, cells := 0, slots := 0, locals := 114 } : Room) D0 K0 cX2_solve 4 RX2 wsX2_solve) (hret : ∀ (pc : Nat) (lv' : List (Nat × Value)), decode cX2_solve pc = .ok (.return_, 1) → G wX h X pc lv' [] u) (hk30 : ∀  (σ : pS), k30 σ = some (r, u) → G wX h X 30 [(0, .ref (h 3))] [] σ) : ∀ (F : Nat) (v2 : Int32) (σ : pS), lX2_solve_2 p1 k30 F v2 σ = some (r, u) → G wX h X 2 [(0, .ref (h 3)), (1, .ref (h p1)), (2, .int v2)] [] σ := by
  intro F
  induction F with
  | zero => intro v2 σ hf; exact absurd hf (by simp [lX2_solve_2])
  | succ F ih =>
    intro v2 σ hf
    rw [lX2_solve_2.eq_2] at hf
    refine g_iload_n C 2 dX2_solve_2 rfl rfl ?_
    refine g_bipush C dX2_solve_3 bp_12 ?_
    refine g_icmp_ge (tgt := 30) hf C dX2_solve_5 (by decide) (fun hf => ?_) (fun hf => ?_)
    · refine g_lv [0] rfl ?_
      exact hk30 σ hf
    · refine g_aload_n C 0 dX2_solve_8 rfl rfl ?_
      refine g_getC (n := 14) C in_X2_solve_X2 (k := 4) lk_X2_solve_0 rfl (Nat.le_of_ble_eq_true rfl) rfl (Nat.le_of_ble_eq_true rfl) rfl dX2_solve_9 ?_
      refine g_iload_n C 2 dX2_solve_12 rfl rfl ?_
      refine g_aload_n C 1 dX2_solve_13 rfl rfl ?_
      refine g_iload_n C 2 dX2_solve_14 rfl rfl ?_
      refine g_aload_n C 1 dX2_solve_15 rfl rfl ?_
      refine g_iload_n C 2 dX2_solve_16 rfl rfl ?_
      obtain ⟨hg1, hf⟩ := g_guard hf
      obtain ⟨r3, hc2, hf⟩ := g_bind hf
      refine g_callVi C (mX3_peopleOut l0 D0 K0 h σ p1 v2 hc2) gX2_solve_X3_peopleOut rfl rfl rfl ddX3_peopleOut ⟨(Nat.le_of_ble_eq_true rfl), (Nat.le_of_ble_eq_true rfl)⟩ (shV hg1) (ltV hg1) rfl rfl rfl (Nat.le_of_ble_eq_true rfl) dX2_solve_17 ?_
      obtain ⟨r5, hc4, hf⟩ := g_bind hf
      refine g_callVi C (mX3_payableDebts l0 D0 K0 h σ p1 v2 r3 hc4) gX2_solve_X3_payableDebts rfl rfl rfl ddX3_payableDebts ⟨(Nat.le_of_ble_eq_true rfl), (Nat.le_of_ble_eq_true rfl)⟩ (shV hg1) (ltV hg1) rfl rfl rfl (Nat.le_of_ble_eq_true rfl) dX2_solve_20 ?_
      refine g_iast hf C rfl (Nat.le_of_ble_eq_true rfl) dX2_solve_23 (fun hf => ?_)
      refine g_lets hf (fun σ6 hf => ?_)
      refine g_iinc C 2 [1, 2, 0] dX2_solve_24 rfl ic_1 (Nat.le_of_ble_eq_true rfl) rfl ?_
      refine g_goto (tgt := 2) C dX2_solve_27 (by decide) ?_
      exact ih (v2 + (1 : Int32)) σ6 hf
set_option maxHeartbeats 4000000 in
set_option maxRecDepth 100000 in
theorem lX2_solve_32_ok {h : Nat → Nat} {X : Cx} {l0 : Launch} {D0 : va_G} {K0 : Nat → ClassId} {k82 : pS → Option (Unit × pS)} {r : Unit} {u : pS} (C : Cok wX h X l0 ({ frames := 5, cells := 0, slots := 0, locals := 114 } : Room) D0 K0 cX2_solve 4 RX2 wsX2_solve) (hret : ∀ (pc : Nat) (lv' : List (Nat × Value)), decode cX2_solve pc = .ok (.return_, 1) → G wX h X pc lv' [] u) (hk82 : ∀  (σ : pS), k82 σ = some (r, u) → G wX h X 82 [(0, .ref (h 3))] [] σ) : ∀ (F : Nat) (v2 : Int32) (σ : pS), lX2_solve_32 k82 F v2 σ = some (r, u) → G wX h X 32 [(0, .ref (h 3)), (2, .int v2)] [] σ := by
  intro F
  induction F with
  | zero => intro v2 σ hf; exact absurd hf (by simp [lX2_solve_32])
  | succ F ih =>
    intro v2 σ hf
    rw [lX2_solve_32.eq_2] at hf
    refine g_iload_n C 1 dX2_solve_32 rfl rfl ?_
    refine g_aload_n C 0 dX2_solve_33 rfl rfl ?_
    refine g_getI C in_X2_solve_X2 (k := 1) lk_X2_solve_1 rfl (Nat.le_of_ble_eq_true rfl) rfl (Nat.le_of_ble_eq_true rfl) rfl dX2_solve_34 ?_
    refine g_icmp_gt (tgt := 82) hf C dX2_solve_37 (by decide) (fun hf => ?_) (fun hf => ?_)
    · refine g_lv [0] rfl ?_
      exact hk82 σ hf
    · refine g_aload_n C 0 dX2_solve_40 rfl rfl ?_
      refine g_getI C in_X2_solve_X2 (k := 1) lk_X2_solve_1 rfl (Nat.le_of_ble_eq_true rfl) rfl (Nat.le_of_ble_eq_true rfl) rfl dX2_solve_41 ?_
      refine g_iload_n C 1 dX2_solve_44 rfl rfl ?_
      refine g_iconst C dX2_solve_45 ic_m1 ?_
      refine g_ixor C dX2_solve_46 ?_
      refine g_iand C dX2_solve_47 ?_
      refine g_leti hf (fun x8 hf => ?_)
      refine g_istore_n C [1, 2, 0] dX2_solve_48 rfl (Nat.le_of_ble_eq_true rfl) rfl ?_
      refine g_aload_n C 0 dX2_solve_49 rfl rfl ?_
      refine g_getC (n := 15) C in_X2_solve_X2 (k := 5) lk_X2_solve_2 rfl (Nat.le_of_ble_eq_true rfl) rfl (Nat.le_of_ble_eq_true rfl) rfl dX2_solve_50 ?_
      refine g_bipush C dX2_solve_53 bp_12 ?_
      refine g_aald hf C rfl (by decide) (Nat.le_of_ble_eq_true rfl) dX2_solve_55 (fun hp9 hf => ?_)
      refine g_iload_n C 1 dX2_solve_56 rfl rfl ?_
      refine g_sipush C dX2_solve_57 sp_10000 ?_
      refine g_iload_n C 2 dX2_solve_60 rfl rfl ?_
      obtain ⟨r11, hc10, hf⟩ := g_bind hf
      refine g_callSi C (mJ6_bitCount_0f7a4 l0 D0 K0 h σ x8 hc10) gX2_solve_J6_bitCount_0f7a4 rfl rfl rfl ddJ6_bitCount_0f7a4 ⟨(Nat.le_of_ble_eq_true rfl), (Nat.le_of_ble_eq_true rfl)⟩ rfl rfl (Nat.le_of_ble_eq_true rfl) dX2_solve_61 ?_
      refine g_imul C dX2_solve_64 ?_
      refine g_bipush C dX2_solve_65 bp_12 ?_
      refine g_aload_n C 0 dX2_solve_67 rfl rfl ?_
      refine g_getC (n := 13) C in_X2_solve_X2 (k := 3) lk_X2_solve_3 rfl (Nat.le_of_ble_eq_true rfl) rfl (Nat.le_of_ble_eq_true rfl) rfl dX2_solve_68 ?_
      refine g_iload_n C 2 dX2_solve_71 rfl rfl ?_
      refine g_iald hf C rfl (Nat.le_of_ble_eq_true rfl) dX2_solve_72 (fun hf => ?_)
      refine g_imul C dX2_solve_73 ?_
      refine g_iadd C dX2_solve_74 ?_
      refine g_iast hf C (sh_rest _ (pin_lt hp9)).1 (sh_rest _ (pin_lt hp9)).2 dX2_solve_75 (fun hf => ?_)
      refine g_lets hf (fun σ12 hf => ?_)
      refine g_iinc C 1 [1, 0] dX2_solve_76 rfl ic_1 (Nat.le_of_ble_eq_true rfl) rfl ?_
      refine g_goto (tgt := 32) C dX2_solve_79 (by decide) ?_
      exact ih (v2 + (1 : Int32)) σ12 hf
set_option maxHeartbeats 4000000 in
set_option maxRecDepth 100000 in
theorem mX2_solve (l0 : Launch) (D0 : va_G) (K0 : Nat → ClassId) (h : Nat → Nat) (σ : pS) (a1 : Nat) {r : Unit} {u : pS} (hf : fX2_solve σ a1 = some (r, u)) : Met l0 yX2_solve wsX2_solve ({ frames := 5, cells := 0, slots := 0, locals := 114 } : Room) (va_Pc [.ref (h 3), .ref (h a1)] (pIn wX D0 K0 h σ)) (va_Qv (fun u' => u' = u) (pOut wX D0 K0 h) (pA wX h)) 0 0 (pA wX h) := by
  refine p_metV (lv := [(0, .ref (h 3)), (1, .ref (h a1))]) (by decide +kernel) rfl rfl (Nat.le_of_ble_eq_true rfl) rfl (fun X C hret => ?_)
  unfold fX2_solve at hf
  refine g_iconst C dX2_solve_0 ic_0 ?_
  refine g_istore_n C [1, 2, 0] dX2_solve_1 rfl (Nat.le_of_ble_eq_true rfl) rfl ?_
  refine lX2_solve_2_ok a1 C hret (fun σ7 hf => ?_) FU (0 : Int32) σ hf
  refine g_iconst C dX2_solve_30 ic_0 ?_
  refine g_istore_n C [1, 0] dX2_solve_31 rfl (Nat.le_of_ble_eq_true rfl) rfl ?_
  refine lX2_solve_32_ok  C hret (fun σ13 hf => ?_) FU (0 : Int32) σ7 hf
  refine g_aload_n C 0 dX2_solve_82 rfl rfl ?_
  refine g_bipush C dX2_solve_83 bp_11 ?_
  obtain ⟨r15, σ16, hc14, hf⟩ := g_pbind hf
  refine g_callVv C (mX2_solveBackFrom l0 D0 K0 h σ13 (11 : Int32) hc14) gX2_solve_X2_solveBackFrom rfl rfl rfl ddX2_solveBackFrom ⟨(Nat.le_of_ble_eq_true rfl), (Nat.le_of_ble_eq_true rfl)⟩ rfl (Nat.le_of_ble_eq_true rfl) rfl rfl rfl (Nat.le_of_ble_eq_true rfl) dX2_solve_85 ?_
  exact g_retvW hf hret dX2_solve_88
/-! X2_leastLoss -/
theorem in_X2_leastLoss_X2 : ∀ q ∈ u_ws RX2 TX2 12, q ∈ wsX2_leastLoss := by decide +kernel
theorem lk_X2_leastLoss_0 : Cond.fieldLink RX2 31 "EmptyHouse$Rounds" "restLoss" "[[I" ∈ wsX2_leastLoss := by decide +kernel
theorem ddX2_leastLoss : yX2_leastLoss.cls = RX2 ∧ yX2_leastLoss.cls ≠ "java/lang/invoke/MethodHandle" ∧ yX2_leastLoss.cls ≠ "java/lang/invoke/VarHandle" ∧ (parseMethodDescriptor yX2_leastLoss.desc).map (fun d => d.parameters.length) = some 0 := by decide +kernel
set_option maxHeartbeats 4000000 in
set_option maxRecDepth 100000 in
theorem mX2_leastLoss (l0 : Launch) (D0 : va_G) (K0 : Nat → ClassId) (h : Nat → Nat) (σ : pS)  {r : Int32} (hf : fX2_leastLoss σ = some r) : Met l0 yX2_leastLoss wsX2_leastLoss ({ frames := 0, cells := 0, slots := 0, locals := 0 } : Room) (va_Pc [.ref (h 3)] (pIn wX D0 K0 h σ)) (va_Qi (fun r' u' => r' = r ∧ u' = σ) (pOut wX D0 K0 h) (pA wX h)) 0 0 (pA wX h) := by
  refine p_metI (lv := [(0, .ref (h 3))]) (by decide +kernel) rfl rfl (Nat.le_of_ble_eq_true rfl) rfl (fun X C hret => ?_)
  unfold fX2_leastLoss at hf
  refine g_aload_n C 0 dX2_leastLoss_0 rfl rfl ?_
  refine g_getC (n := 15) C in_X2_leastLoss_X2 (k := 5) lk_X2_leastLoss_0 rfl (Nat.le_of_ble_eq_true rfl) rfl (Nat.le_of_ble_eq_true rfl) rfl dX2_leastLoss_1 ?_
  refine g_iconst C dX2_leastLoss_4 ic_0 ?_
  refine g_aald hf C rfl (by decide) (Nat.le_of_ble_eq_true rfl) dX2_leastLoss_5 (fun hp1 hf => ?_)
  refine g_iconst C dX2_leastLoss_6 ic_0 ?_
  refine g_iald hf C (sh_rest _ (pin_lt hp1)).1 (sh_rest _ (pin_lt hp1)).2 dX2_leastLoss_7 (fun hf => ?_)
  exact g_reti hf hret dX2_leastLoss_8
/-! X2_interestOf -/
theorem ddX2_interestOf : yX2_interestOf.cls = RX2 ∧ yX2_interestOf.cls ≠ "java/lang/invoke/MethodHandle" ∧ yX2_interestOf.cls ≠ "java/lang/invoke/VarHandle" ∧ (parseMethodDescriptor yX2_interestOf.desc).map (fun d => d.parameters.length) = some 1 := by decide +kernel
set_option maxHeartbeats 4000000 in
set_option maxRecDepth 100000 in
theorem mX2_interestOf (l0 : Launch) (D0 : va_G) (K0 : Nat → ClassId) (h : Nat → Nat) (σ : pS) (a1 : Int32) {r : Int32} (hf : fX2_interestOf a1 = some r) : Met l0 yX2_interestOf wsX2_interestOf ({ frames := 0, cells := 0, slots := 0, locals := 0 } : Room) (va_Pc [.ref (h 3), .int a1] (pIn wX D0 K0 h σ)) (va_Qi (fun r' u' => r' = r ∧ u' = σ) (pOut wX D0 K0 h) (pA wX h)) 0 0 (pA wX h) := by
  refine p_metI (lv := [(0, .ref (h 3)), (1, .int a1)]) (by decide +kernel) rfl rfl (Nat.le_of_ble_eq_true rfl) rfl (fun X C hret => ?_)
  unfold fX2_interestOf at hf
  refine g_iload_n C 1 dX2_interestOf_0 rfl rfl ?_
  refine g_sipush C dX2_interestOf_1 sp_10000 ?_
  refine g_iremC C dX2_interestOf_4 (by decide) ?_
  exact g_reti hf hret dX2_interestOf_5
/-! X2_paidOf -/
theorem in_X2_paidOf_X2 : ∀ q ∈ u_ws RX2 TX2 12, q ∈ wsX2_paidOf := by decide +kernel
theorem lk_X2_paidOf_0 : Cond.fieldLink RX2 9 "EmptyHouse$Rounds" "debts" "I" ∈ wsX2_paidOf := by decide +kernel
theorem ddX2_paidOf : yX2_paidOf.cls = RX2 ∧ yX2_paidOf.cls ≠ "java/lang/invoke/MethodHandle" ∧ yX2_paidOf.cls ≠ "java/lang/invoke/VarHandle" ∧ (parseMethodDescriptor yX2_paidOf.desc).map (fun d => d.parameters.length) = some 1 := by decide +kernel
set_option maxHeartbeats 4000000 in
set_option maxRecDepth 100000 in
theorem mX2_paidOf (l0 : Launch) (D0 : va_G) (K0 : Nat → ClassId) (h : Nat → Nat) (σ : pS) (a1 : Int32) {r : Int32} (hf : fX2_paidOf σ a1 = some r) : Met l0 yX2_paidOf wsX2_paidOf ({ frames := 0, cells := 0, slots := 0, locals := 0 } : Room) (va_Pc [.ref (h 3), .int a1] (pIn wX D0 K0 h σ)) (va_Qi (fun r' u' => r' = r ∧ u' = σ) (pOut wX D0 K0 h) (pA wX h)) 0 0 (pA wX h) := by
  refine p_metI (lv := [(0, .ref (h 3)), (1, .int a1)]) (by decide +kernel) rfl rfl (Nat.le_of_ble_eq_true rfl) rfl (fun X C hret => ?_)
  unfold fX2_paidOf at hf
  refine g_aload_n C 0 dX2_paidOf_0 rfl rfl ?_
  refine g_getI C in_X2_paidOf_X2 (k := 0) lk_X2_paidOf_0 rfl (Nat.le_of_ble_eq_true rfl) rfl (Nat.le_of_ble_eq_true rfl) rfl dX2_paidOf_1 ?_
  refine g_iload_n C 1 dX2_paidOf_4 rfl rfl ?_
  refine g_sipush C dX2_paidOf_5 sp_10000 ?_
  refine g_idivC C dX2_paidOf_8 (by decide) ?_
  refine g_isub C dX2_paidOf_9 ?_
  exact g_reti hf hret dX2_paidOf_10
/-! X2_leastSet -/
theorem in_X2_leastSet_X2 : ∀ q ∈ u_ws RX2 TX2 12, q ∈ wsX2_leastSet := by decide +kernel
theorem lk_X2_leastSet_0 : Cond.fieldLink RX2 31 "EmptyHouse$Rounds" "restLoss" "[[I" ∈ wsX2_leastSet := by decide +kernel
theorem lk_X2_leastSet_1 : Cond.fieldLink RX2 26 "EmptyHouse$Rounds" "payable" "[I" ∈ wsX2_leastSet := by decide +kernel
theorem lk_X2_leastSet_2 : Cond.fieldLink RX2 18 "EmptyHouse$Rounds" "fits" "[Z" ∈ wsX2_leastSet := by decide +kernel
theorem ddX2_leastSet : yX2_leastSet.cls = RX2 ∧ yX2_leastSet.cls ≠ "java/lang/invoke/MethodHandle" ∧ yX2_leastSet.cls ≠ "java/lang/invoke/VarHandle" ∧ (parseMethodDescriptor yX2_leastSet.desc).map (fun d => d.parameters.length) = some 2 := by decide +kernel
set_option maxHeartbeats 4000000 in
set_option maxRecDepth 100000 in
theorem lX2_leastSet_40_ok {h : Nat → Nat} {X : Cx} {l0 : Launch} {D0 : va_G} {K0 : Nat → ClassId} (σ : pS) (p1 : Int32) (p2 : Int32) (p3 : Int32) {k89 : Int32 → Option Int32} {r : Int32} (C : Cok wX h X l0 ({ frames := 1, cells := 0, slots := 0, locals := 23 } : Room) D0 K0 cX2_leastSet 6 RX2 wsX2_leastSet) (hret : ∀ (pc : Nat) (lv' : List (Nat × Value)), decode cX2_leastSet pc = .ok (.ireturn, 1) → G wX h X pc lv' [.int r] σ) (hk89 : ∀ (z4 : Int32), k89 z4 = some r → G wX h X 89 [(4, .int z4)] [] σ) : ∀ (F : Nat) (v4 : Int32) (v5 : Int32), lX2_leastSet_40 σ p1 p2 p3 k89 F v4 v5 = some r → G wX h X 40 [(0, .ref (h 3)), (1, .int p1), (2, .int p2), (3, .int p3), (4, .int v4), (5, .int v5)] [] σ := by
  intro F
  induction F with
  | zero => intro v4 v5 hf; exact absurd hf (by simp [lX2_leastSet_40])
  | succ F ih =>
    intro v4 v5 hf
    rw [lX2_leastSet_40.eq_2] at hf
    refine g_iload C 5 dX2_leastSet_40 rfl ?_
    refine g_if_le (tgt := 89) hf C dX2_leastSet_42 (by decide) (fun hf => ?_) (fun hf => ?_)
    · refine g_lv [4] rfl ?_
      exact hk89 v4 hf
    · refine g_aload_n C 0 dX2_leastSet_45 rfl rfl ?_
      refine g_getC (n := 12) C in_X2_leastSet_X2 (k := 2) lk_X2_leastSet_2 rfl (Nat.le_of_ble_eq_true rfl) rfl (Nat.le_of_ble_eq_true rfl) rfl dX2_leastSet_46 ?_
      refine g_iload C 5 dX2_leastSet_49 rfl ?_
      refine g_zald hf C rfl (Nat.le_of_ble_eq_true rfl) dX2_leastSet_51 (fun hf => ?_)
      refine g_join (P := fun j => ∀ (y5 : Int32), j y5 = some r → G wX h X 78 [(0, .ref (h 3)), (1, .int p1), (2, .int p2), (3, .int p3), (4, .int y5), (5, .int v5)] [] σ) hf (fun y5 hf => ?_) (fun j4 hj4 hf => ?_)
      · refine g_iload C 5 dX2_leastSet_78 rfl ?_
        refine g_iconst C dX2_leastSet_80 ic_1 ?_
        refine g_isub C dX2_leastSet_81 ?_
        refine g_iload_n C 3 dX2_leastSet_82 rfl rfl ?_
        refine g_iand C dX2_leastSet_83 ?_
        refine g_leti hf (fun x6 hf => ?_)
        refine g_istore C [1, 2, 3, 4, 5, 0] dX2_leastSet_84 (Nat.le_of_ble_eq_true rfl) rfl ?_
        refine g_goto (tgt := 40) C dX2_leastSet_86 (by decide) ?_
        exact ih y5 x6 hf
      · refine g_if_eq (tgt := 78) hf C dX2_leastSet_52 (by decide) (fun hf => ?_) (fun hf => ?_)
        · exact hj4 v4 hf
        · refine g_aload_n C 0 dX2_leastSet_55 rfl rfl ?_
          refine g_iload_n C 1 dX2_leastSet_56 rfl rfl ?_
          refine g_iload_n C 2 dX2_leastSet_57 rfl rfl ?_
          refine g_iload C 5 dX2_leastSet_58 rfl ?_
          obtain ⟨r8, hc7, hf⟩ := g_bind hf
          refine g_callVi C (mX2_lossBy l0 D0 K0 h σ p1 p2 v5 hc7) gX2_leastSet_X2_lossBy rfl rfl rfl ddX2_lossBy ⟨(Nat.le_of_ble_eq_true rfl), (Nat.le_of_ble_eq_true rfl)⟩ rfl (Nat.le_of_ble_eq_true rfl) rfl rfl rfl (Nat.le_of_ble_eq_true rfl) dX2_leastSet_60 ?_
          refine g_aload_n C 0 dX2_leastSet_63 rfl rfl ?_
          refine g_getC (n := 15) C in_X2_leastSet_X2 (k := 5) lk_X2_leastSet_0 rfl (Nat.le_of_ble_eq_true rfl) rfl (Nat.le_of_ble_eq_true rfl) rfl dX2_leastSet_64 ?_
          refine g_iload_n C 1 dX2_leastSet_67 rfl rfl ?_
          refine g_aald hf C rfl (by decide) (Nat.le_of_ble_eq_true rfl) dX2_leastSet_68 (fun hp9 hf => ?_)
          refine g_iload_n C 2 dX2_leastSet_69 rfl rfl ?_
          refine g_iald hf C (sh_rest _ (pin_lt hp9)).1 (sh_rest _ (pin_lt hp9)).2 dX2_leastSet_70 (fun hf => ?_)
          refine g_icmp_ne (tgt := 78) hf C dX2_leastSet_71 (by decide) (fun hf => ?_) (fun hf => ?_)
          · exact hj4 v4 hf
          · refine g_iload C 5 dX2_leastSet_74 rfl ?_
            refine g_istore C [1, 2, 3, 4, 0, 5] dX2_leastSet_76 (Nat.le_of_ble_eq_true rfl) rfl ?_
            exact hj4 v5 hf
set_option maxHeartbeats 4000000 in
set_option maxRecDepth 100000 in
theorem mX2_leastSet (l0 : Launch) (D0 : va_G) (K0 : Nat → ClassId) (h : Nat → Nat) (σ : pS) (a1 : Int32) (a2 : Int32) {r : Int32} (hf : fX2_leastSet σ a1 a2 = some r) : Met l0 yX2_leastSet wsX2_leastSet ({ frames := 1, cells := 0, slots := 0, locals := 23 } : Room) (va_Pc [.ref (h 3), .int a1, .int a2] (pIn wX D0 K0 h σ)) (va_Qi (fun r' u' => r' = r ∧ u' = σ) (pOut wX D0 K0 h) (pA wX h)) 0 0 (pA wX h) := by
  refine p_metI (lv := [(0, .ref (h 3)), (1, .int a1), (2, .int a2)]) (by decide +kernel) rfl rfl (Nat.le_of_ble_eq_true rfl) rfl (fun X C hret => ?_)
  unfold fX2_leastSet at hf
  refine g_aload_n C 0 dX2_leastSet_0 rfl rfl ?_
  refine g_getC (n := 15) C in_X2_leastSet_X2 (k := 5) lk_X2_leastSet_0 rfl (Nat.le_of_ble_eq_true rfl) rfl (Nat.le_of_ble_eq_true rfl) rfl dX2_leastSet_1 ?_
  refine g_iload_n C 1 dX2_leastSet_4 rfl rfl ?_
  refine g_iconst C dX2_leastSet_5 ic_1 ?_
  refine g_iadd C dX2_leastSet_6 ?_
  refine g_aald hf C rfl (by decide) (Nat.le_of_ble_eq_true rfl) dX2_leastSet_7 (fun hp1 hf => ?_)
  refine g_iload_n C 2 dX2_leastSet_8 rfl rfl ?_
  refine g_iald hf C (sh_rest _ (pin_lt hp1)).1 (sh_rest _ (pin_lt hp1)).2 dX2_leastSet_9 (fun hf => ?_)
  refine g_aload_n C 0 dX2_leastSet_10 rfl rfl ?_
  refine g_getC (n := 15) C in_X2_leastSet_X2 (k := 5) lk_X2_leastSet_0 rfl (Nat.le_of_ble_eq_true rfl) rfl (Nat.le_of_ble_eq_true rfl) rfl dX2_leastSet_11 ?_
  refine g_iload_n C 1 dX2_leastSet_14 rfl rfl ?_
  refine g_aald hf C rfl (by decide) (Nat.le_of_ble_eq_true rfl) dX2_leastSet_15 (fun hp2 hf => ?_)
  refine g_iload_n C 2 dX2_leastSet_16 rfl rfl ?_
  refine g_iald hf C (sh_rest _ (pin_lt hp2)).1 (sh_rest _ (pin_lt hp2)).2 dX2_leastSet_17 (fun hf => ?_)
  refine g_icmp_ne (tgt := 23) hf C dX2_leastSet_18 (by decide) (fun hf => ?_) (fun hf => ?_)
  · refine g_aload_n C 0 dX2_leastSet_23 rfl rfl ?_
    refine g_getC (n := 14) C in_X2_leastSet_X2 (k := 4) lk_X2_leastSet_1 rfl (Nat.le_of_ble_eq_true rfl) rfl (Nat.le_of_ble_eq_true rfl) rfl dX2_leastSet_24 ?_
    refine g_iload_n C 1 dX2_leastSet_27 rfl rfl ?_
    refine g_iald hf C rfl (Nat.le_of_ble_eq_true rfl) dX2_leastSet_28 (fun hf => ?_)
    refine g_iload_n C 2 dX2_leastSet_29 rfl rfl ?_
    refine g_iconst C dX2_leastSet_30 ic_m1 ?_
    refine g_ixor C dX2_leastSet_31 ?_
    refine g_iand C dX2_leastSet_32 ?_
    refine g_leti hf (fun x3 hf => ?_)
    refine g_istore_n C [1, 2, 3, 0] dX2_leastSet_33 rfl (Nat.le_of_ble_eq_true rfl) rfl ?_
    refine g_iconst C dX2_leastSet_34 ic_0 ?_
    refine g_istore C [1, 2, 3, 4, 0] dX2_leastSet_35 (Nat.le_of_ble_eq_true rfl) rfl ?_
    refine g_iload_n C 3 dX2_leastSet_37 rfl rfl ?_
    refine g_istore C [1, 2, 3, 4, 5, 0] dX2_leastSet_38 (Nat.le_of_ble_eq_true rfl) rfl ?_
    refine lX2_leastSet_40_ok σ a1 a2 x3 C hret (fun y10 hf => ?_) FU (0 : Int32) x3 hf
    refine g_iload C 0 dX2_leastSet_89 rfl ?_
    exact g_reti hf hret dX2_leastSet_91
  · refine g_iconst C dX2_leastSet_21 ic_0 ?_
    exact g_reti hf hret dX2_leastSet_22
/-! X2_trace -/
theorem in_X2_trace_X2 : ∀ q ∈ u_ws RX2 TX2 12, q ∈ wsX2_trace := by decide +kernel
theorem lk_X2_trace_0 : Cond.fieldLink RX2 41 "EmptyHouse$Rounds" "best" "[I" ∈ wsX2_trace := by decide +kernel
theorem lk_X2_trace_1 : Cond.fieldLink RX2 9 "EmptyHouse$Rounds" "debts" "I" ∈ wsX2_trace := by decide +kernel
theorem ddX2_trace : yX2_trace.cls = RX2 ∧ yX2_trace.cls ≠ "java/lang/invoke/MethodHandle" ∧ yX2_trace.cls ≠ "java/lang/invoke/VarHandle" ∧ (parseMethodDescriptor yX2_trace.desc).map (fun d => d.parameters.length) = some 0 := by decide +kernel
set_option maxHeartbeats 4000000 in
set_option maxRecDepth 100000 in
theorem lX2_trace_29_ok {h : Nat → Nat} {X : Cx} {l0 : Launch} {D0 : va_G} {K0 : Nat → ClassId} (p1 : Int32) (p2 : Int32) (p3 : Int32) {k62 : pS → Option (Unit × pS)} {r : Unit} {u : pS} (C : Cok wX h X l0 ({ frames := 2, cells := 0, slots := 0, locals := 48 } : Room) D0 K0 cX2_trace 5 RX2 wsX2_trace) (hret : ∀ (pc : Nat) (lv' : List (Nat × Value)), decode cX2_trace pc = .ok (.return_, 1) → G wX h X pc lv' [] u) (hk62 : ∀  (σ : pS), k62 σ = some (r, u) → G wX h X 62 [(0, .ref (h 3)), (1, .int p1), (2, .int p2), (3, .int p3)] [] σ) : ∀ (F : Nat) (v4 : Int32) (σ : pS), lX2_trace_29 p1 p2 p3 k62 F v4 σ = some (r, u) → G wX h X 29 [(0, .ref (h 3)), (1, .int p1), (2, .int p2), (3, .int p3), (4, .int v4)] [] σ := by
  intro F
  induction F with
  | zero => intro v4 σ hf; exact absurd hf (by simp [lX2_trace_29])
  | succ F ih =>
    intro v4 σ hf
    rw [lX2_trace_29.eq_2] at hf
    refine g_iload C 4 dX2_trace_29 rfl ?_
    refine g_aload_n C 0 dX2_trace_31 rfl rfl ?_
    refine g_getI C in_X2_trace_X2 (k := 0) lk_X2_trace_1 rfl (Nat.le_of_ble_eq_true rfl) rfl (Nat.le_of_ble_eq_true rfl) rfl dX2_trace_32 ?_
    refine g_icmp_ge (tgt := 62) hf C dX2_trace_35 (by decide) (fun hf => ?_) (fun hf => ?_)
    · refine g_lv [0, 1, 2, 3] rfl ?_
      exact hk62 σ hf
    · refine g_iload_n C 3 dX2_trace_38 rfl rfl ?_
      refine g_iload C 4 dX2_trace_39 rfl ?_
      refine g_ishr C dX2_trace_41 ?_
      refine g_iconst C dX2_trace_42 ic_1 ?_
      refine g_iand C dX2_trace_43 ?_
      refine g_iconst C dX2_trace_44 ic_1 ?_
      refine g_icmp_ne (tgt := 56) hf C dX2_trace_45 (by decide) (fun hf => ?_) (fun hf => ?_)
      · refine g_iinc C 4 [1, 2, 3, 4, 0] dX2_trace_56 rfl ic_1 (Nat.le_of_ble_eq_true rfl) rfl ?_
        refine g_goto (tgt := 29) C dX2_trace_59 (by decide) ?_
        exact ih (v4 + (1 : Int32)) σ hf
      · refine g_aload_n C 0 dX2_trace_48 rfl rfl ?_
        refine g_getC (n := 18) C in_X2_trace_X2 (k := 8) lk_X2_trace_0 rfl (Nat.le_of_ble_eq_true rfl) rfl (Nat.le_of_ble_eq_true rfl) rfl dX2_trace_49 ?_
        refine g_iload C 4 dX2_trace_52 rfl ?_
        refine g_iload_n C 2 dX2_trace_54 rfl rfl ?_
        refine g_iast hf C rfl (Nat.le_of_ble_eq_true rfl) dX2_trace_55 (fun hf => ?_)
        refine g_lets hf (fun σ6 hf => ?_)
        refine g_iinc C 4 [1, 2, 3, 4, 0] dX2_trace_56 rfl ic_1 (Nat.le_of_ble_eq_true rfl) rfl ?_
        refine g_goto (tgt := 29) C dX2_trace_59 (by decide) ?_
        exact ih (v4 + (1 : Int32)) σ6 hf
set_option maxHeartbeats 4000000 in
set_option maxRecDepth 100000 in
theorem lX2_trace_13_ok {h : Nat → Nat} {X : Cx} {l0 : Launch} {D0 : va_G} {K0 : Nat → ClassId} {k72 : pS → Option (Unit × pS)} {r : Unit} {u : pS} (C : Cok wX h X l0 ({ frames := 2, cells := 0, slots := 0, locals := 48 } : Room) D0 K0 cX2_trace 5 RX2 wsX2_trace) (hret : ∀ (pc : Nat) (lv' : List (Nat × Value)), decode cX2_trace pc = .ok (.return_, 1) → G wX h X pc lv' [] u) (hk72 : ∀  (σ : pS), k72 σ = some (r, u) → G wX h X 72 [] [] σ) : ∀ (F : Nat) (v1 : Int32) (v2 : Int32) (σ : pS), lX2_trace_13 k72 F v1 v2 σ = some (r, u) → G wX h X 13 [(0, .ref (h 3)), (1, .int v1), (2, .int v2)] [] σ := by
  intro F
  induction F with
  | zero => intro v1 v2 σ hf; exact absurd hf (by simp [lX2_trace_13])
  | succ F ih =>
    intro v1 v2 σ hf
    rw [lX2_trace_13.eq_2] at hf
    refine g_iload_n C 2 dX2_trace_13 rfl rfl ?_
    refine g_bipush C dX2_trace_14 bp_12 ?_
    refine g_icmp_ge (tgt := 72) hf C dX2_trace_16 (by decide) (fun hf => ?_) (fun hf => ?_)
    · refine g_lv [] rfl ?_
      exact hk72 σ hf
    · refine g_aload_n C 0 dX2_trace_19 rfl rfl ?_
      refine g_iload_n C 2 dX2_trace_20 rfl rfl ?_
      refine g_iload_n C 1 dX2_trace_21 rfl rfl ?_
      obtain ⟨r5, hc4, hf⟩ := g_bind hf
      refine g_callVi C (mX2_leastSet l0 D0 K0 h σ v2 v1 hc4) gX2_trace_X2_leastSet rfl rfl rfl ddX2_leastSet ⟨(Nat.le_of_ble_eq_true rfl), (Nat.le_of_ble_eq_true rfl)⟩ rfl (Nat.le_of_ble_eq_true rfl) rfl rfl rfl (Nat.le_of_ble_eq_true rfl) dX2_trace_22 ?_
      refine g_istore_n C [1, 2, 3, 0] dX2_trace_25 rfl (Nat.le_of_ble_eq_true rfl) rfl ?_
      refine g_iconst C dX2_trace_26 ic_0 ?_
      refine g_istore C [1, 2, 3, 4, 0] dX2_trace_27 (Nat.le_of_ble_eq_true rfl) rfl ?_
      refine lX2_trace_29_ok v1 v2 r5 C hret (fun σ7 hf => ?_) FU (0 : Int32) σ hf
      refine g_iload_n C 1 dX2_trace_62 rfl rfl ?_
      refine g_iload_n C 3 dX2_trace_63 rfl rfl ?_
      refine g_ior C dX2_trace_64 ?_
      refine g_leti hf (fun x8 hf => ?_)
      refine g_istore_n C [1, 0, 2] dX2_trace_65 rfl (Nat.le_of_ble_eq_true rfl) rfl ?_
      refine g_iinc C 2 [1, 2, 0] dX2_trace_66 rfl ic_1 (Nat.le_of_ble_eq_true rfl) rfl ?_
      refine g_goto (tgt := 13) C dX2_trace_69 (by decide) ?_
      exact ih x8 (v2 + (1 : Int32)) σ7 hf
set_option maxHeartbeats 4000000 in
set_option maxRecDepth 100000 in
theorem mX2_trace (l0 : Launch) (D0 : va_G) (K0 : Nat → ClassId) (h : Nat → Nat) (σ : pS)  {r : Unit} {u : pS} (hf : fX2_trace σ = some (r, u)) : Met l0 yX2_trace wsX2_trace ({ frames := 2, cells := 0, slots := 0, locals := 48 } : Room) (va_Pc [.ref (h 3)] (pIn wX D0 K0 h σ)) (va_Qv (fun u' => u' = u) (pOut wX D0 K0 h) (pA wX h)) 0 0 (pA wX h) := by
  refine p_metV (lv := [(0, .ref (h 3))]) (by decide +kernel) rfl rfl (Nat.le_of_ble_eq_true rfl) rfl (fun X C hret => ?_)
  unfold fX2_trace at hf
  refine g_aload_n C 0 dX2_trace_0 rfl rfl ?_
  refine g_getC (n := 18) C in_X2_trace_X2 (k := 8) lk_X2_trace_0 rfl (Nat.le_of_ble_eq_true rfl) rfl (Nat.le_of_ble_eq_true rfl) rfl dX2_trace_1 ?_
  refine g_bipush C dX2_trace_4 bp_m9 ?_
  obtain ⟨r2, σ3, hc1, hf⟩ := g_pbind hf
  refine g_callSv C (mJ7_fill_53178 l0 D0 K0 h σ 18 (-9 : Int32) hc1) gX2_trace_J7_fill_53178 rfl rfl rfl ddJ7_fill_53178 ⟨(Nat.le_of_ble_eq_true rfl), (Nat.le_of_ble_eq_true rfl)⟩ rfl rfl (Nat.le_of_ble_eq_true rfl) dX2_trace_6 ?_
  refine g_iconst C dX2_trace_9 ic_0 ?_
  refine g_istore_n C [1, 0] dX2_trace_10 rfl (Nat.le_of_ble_eq_true rfl) rfl ?_
  refine g_iconst C dX2_trace_11 ic_0 ?_
  refine g_istore_n C [1, 2, 0] dX2_trace_12 rfl (Nat.le_of_ble_eq_true rfl) rfl ?_
  refine lX2_trace_13_ok  C hret (fun σ9 hf => ?_) FU (0 : Int32) (0 : Int32) σ3 hf
  exact g_retvW hf hret dX2_trace_72
/-! X2_paidTo -/
theorem in_X2_paidTo_X2 : ∀ q ∈ u_ws RX2 TX2 12, q ∈ wsX2_paidTo := by decide +kernel
theorem in_X2_paidTo_X3 : ∀ q ∈ u_ws RX3 TX3 11, q ∈ wsX2_paidTo := by decide +kernel
theorem lk_X2_paidTo_0 : Cond.fieldLink RX2 9 "EmptyHouse$Rounds" "debts" "I" ∈ wsX2_paidTo := by decide +kernel
theorem lk_X2_paidTo_1 : Cond.fieldLink RX2 111 "EmptyHouse$Village" "creditor" "[I" ∈ wsX2_paidTo := by decide +kernel
theorem lk_X2_paidTo_2 : Cond.fieldLink RX2 41 "EmptyHouse$Rounds" "best" "[I" ∈ wsX2_paidTo := by decide +kernel
theorem ddX2_paidTo : yX2_paidTo.cls = RX2 ∧ yX2_paidTo.cls ≠ "java/lang/invoke/MethodHandle" ∧ yX2_paidTo.cls ≠ "java/lang/invoke/VarHandle" ∧ (parseMethodDescriptor yX2_paidTo.desc).map (fun d => d.parameters.length) = some 2 := by decide +kernel
set_option maxHeartbeats 4000000 in
set_option maxRecDepth 100000 in
theorem lX2_paidTo_5_ok {h : Nat → Nat} {X : Cx} {l0 : Launch} {D0 : va_G} {K0 : Nat → ClassId} (σ : pS) (p1 : Nat) (p2 : Int32) {k59 : Int32 → Option Int32} {r : Int32} (C : Cok wX h X l0 ({ frames := 1, cells := 0, slots := 0, locals := 22 } : Room) D0 K0 cX2_paidTo 5 RX2 wsX2_paidTo) (hret : ∀ (pc : Nat) (lv' : List (Nat × Value)), decode cX2_paidTo pc = .ok (.ireturn, 1) → G wX h X pc lv' [.int r] σ) (hk59 : ∀ (z3 : Int32), k59 z3 = some r → G wX h X 59 [(3, .int z3)] [] σ) : ∀ (F : Nat) (v3 : Int32) (v4 : Int32), lX2_paidTo_5 σ p1 p2 k59 F v3 v4 = some r → G wX h X 5 [(0, .ref (h 3)), (1, .ref (h p1)), (2, .int p2), (3, .int v3), (4, .int v4)] [] σ := by
  intro F
  induction F with
  | zero => intro v3 v4 hf; exact absurd hf (by simp [lX2_paidTo_5])
  | succ F ih =>
    intro v3 v4 hf
    rw [lX2_paidTo_5.eq_2] at hf
    refine g_iload C 4 dX2_paidTo_5 rfl ?_
    refine g_aload_n C 0 dX2_paidTo_7 rfl rfl ?_
    refine g_getI C in_X2_paidTo_X2 (k := 0) lk_X2_paidTo_0 rfl (Nat.le_of_ble_eq_true rfl) rfl (Nat.le_of_ble_eq_true rfl) rfl dX2_paidTo_8 ?_
    refine g_icmp_ge (tgt := 59) hf C dX2_paidTo_11 (by decide) (fun hf => ?_) (fun hf => ?_)
    · refine g_lv [3] rfl ?_
      exact hk59 v3 hf
    · refine g_aload_n C 1 dX2_paidTo_14 rfl rfl ?_
      obtain ⟨hg1, hf⟩ := g_guard hf
      refine g_getC (n := p1 + 6) C in_X2_paidTo_X3 (k := 8) lk_X2_paidTo_1 rfl (Nat.le_of_ble_eq_true rfl) (shV hg1) (ltV hg1) rfl dX2_paidTo_15 ?_
      refine g_iload C 4 dX2_paidTo_18 rfl ?_
      refine g_iald hf C (shV6 hg1).1 (shV6 hg1).2 dX2_paidTo_20 (fun hf => ?_)
      refine g_iload_n C 2 dX2_paidTo_21 rfl rfl ?_
      refine g_icmp_ne (tgt := 53) hf C dX2_paidTo_22 (by decide) (fun hf => ?_) (fun hf => ?_)
      · refine g_iinc C 4 [1, 2, 3, 4, 0] dX2_paidTo_53 rfl ic_1 (Nat.le_of_ble_eq_true rfl) rfl ?_
        refine g_goto (tgt := 5) C dX2_paidTo_56 (by decide) ?_
        exact ih v3 (v4 + (1 : Int32)) hf
      · refine g_aload_n C 0 dX2_paidTo_25 rfl rfl ?_
        refine g_getC (n := 18) C in_X2_paidTo_X2 (k := 8) lk_X2_paidTo_2 rfl (Nat.le_of_ble_eq_true rfl) rfl (Nat.le_of_ble_eq_true rfl) rfl dX2_paidTo_26 ?_
        refine g_iload C 4 dX2_paidTo_29 rfl ?_
        refine g_iald hf C rfl (Nat.le_of_ble_eq_true rfl) dX2_paidTo_31 (fun hf => ?_)
        refine g_bipush C dX2_paidTo_32 bp_m9 ?_
        refine g_icmp_eq (tgt := 53) hf C dX2_paidTo_34 (by decide) (fun hf => ?_) (fun hf => ?_)
        · refine g_iinc C 4 [1, 2, 3, 4, 0] dX2_paidTo_53 rfl ic_1 (Nat.le_of_ble_eq_true rfl) rfl ?_
          refine g_goto (tgt := 5) C dX2_paidTo_56 (by decide) ?_
          exact ih v3 (v4 + (1 : Int32)) hf
        · refine g_iload_n C 3 dX2_paidTo_37 rfl rfl ?_
          refine g_aload_n C 1 dX2_paidTo_38 rfl rfl ?_
          refine g_iload C 4 dX2_paidTo_39 rfl ?_
          refine g_aload_n C 0 dX2_paidTo_41 rfl rfl ?_
          refine g_getC (n := 18) C in_X2_paidTo_X2 (k := 8) lk_X2_paidTo_2 rfl (Nat.le_of_ble_eq_true rfl) rfl (Nat.le_of_ble_eq_true rfl) rfl dX2_paidTo_42 ?_
          refine g_iload C 4 dX2_paidTo_45 rfl ?_
          refine g_iald hf C rfl (Nat.le_of_ble_eq_true rfl) dX2_paidTo_47 (fun hf => ?_)
          obtain ⟨r3, hc2, hf⟩ := g_bind hf
          refine g_callVi C (mX3_cost l0 D0 K0 h σ p1 v4 (pI σ 18 (v4).toNatClampNeg) hc2) gX2_paidTo_X3_cost rfl rfl rfl ddX3_cost ⟨(Nat.le_of_ble_eq_true rfl), (Nat.le_of_ble_eq_true rfl)⟩ (shV hg1) (ltV hg1) rfl rfl rfl (Nat.le_of_ble_eq_true rfl) dX2_paidTo_48 ?_
          refine g_iadd C dX2_paidTo_51 ?_
          refine g_leti hf (fun x4 hf => ?_)
          refine g_istore_n C [1, 2, 3, 0, 4] dX2_paidTo_52 rfl (Nat.le_of_ble_eq_true rfl) rfl ?_
          refine g_iinc C 4 [1, 2, 3, 4, 0] dX2_paidTo_53 rfl ic_1 (Nat.le_of_ble_eq_true rfl) rfl ?_
          refine g_goto (tgt := 5) C dX2_paidTo_56 (by decide) ?_
          exact ih x4 (v4 + (1 : Int32)) hf
set_option maxHeartbeats 4000000 in
set_option maxRecDepth 100000 in
theorem mX2_paidTo (l0 : Launch) (D0 : va_G) (K0 : Nat → ClassId) (h : Nat → Nat) (σ : pS) (a1 : Nat) (a2 : Int32) {r : Int32} (hf : fX2_paidTo σ a1 a2 = some r) : Met l0 yX2_paidTo wsX2_paidTo ({ frames := 1, cells := 0, slots := 0, locals := 22 } : Room) (va_Pc [.ref (h 3), .ref (h a1), .int a2] (pIn wX D0 K0 h σ)) (va_Qi (fun r' u' => r' = r ∧ u' = σ) (pOut wX D0 K0 h) (pA wX h)) 0 0 (pA wX h) := by
  refine p_metI (lv := [(0, .ref (h 3)), (1, .ref (h a1)), (2, .int a2)]) (by decide +kernel) rfl rfl (Nat.le_of_ble_eq_true rfl) rfl (fun X C hret => ?_)
  unfold fX2_paidTo at hf
  refine g_iconst C dX2_paidTo_0 ic_0 ?_
  refine g_istore_n C [1, 2, 3, 0] dX2_paidTo_1 rfl (Nat.le_of_ble_eq_true rfl) rfl ?_
  refine g_iconst C dX2_paidTo_2 ic_0 ?_
  refine g_istore C [1, 2, 3, 4, 0] dX2_paidTo_3 (Nat.le_of_ble_eq_true rfl) rfl ?_
  refine lX2_paidTo_5_ok σ a1 a2 C hret (fun y5 hf => ?_) FU (0 : Int32) (0 : Int32) hf
  refine g_iload_n C 0 dX2_paidTo_59 rfl rfl ?_
  exact g_reti hf hret dX2_paidTo_60
/-! X2_paidWithout -/
theorem in_X2_paidWithout_X2 : ∀ q ∈ u_ws RX2 TX2 12, q ∈ wsX2_paidWithout := by decide +kernel
theorem lk_X2_paidWithout_0 : Cond.fieldLink RX2 26 "EmptyHouse$Rounds" "payable" "[I" ∈ wsX2_paidWithout := by decide +kernel
theorem ddX2_paidWithout : yX2_paidWithout.cls = RX2 ∧ yX2_paidWithout.cls ≠ "java/lang/invoke/MethodHandle" ∧ yX2_paidWithout.cls ≠ "java/lang/invoke/VarHandle" ∧ (parseMethodDescriptor yX2_paidWithout.desc).map (fun d => d.parameters.length) = some 4 := by decide +kernel
set_option maxHeartbeats 4000000 in
set_option maxRecDepth 100000 in
theorem mX2_paidWithout (l0 : Launch) (D0 : va_G) (K0 : Nat → ClassId) (h : Nat → Nat) (σ : pS) (a1 : Nat) (a2 : Int32) (a3 : Int32) (a4 : Int32) {r : Int32} {u : pS} (hf : fX2_paidWithout σ a1 a2 a3 a4 = some (r, u)) : Met l0 yX2_paidWithout wsX2_paidWithout ({ frames := 5, cells := 0, slots := 0, locals := 114 } : Room) (va_Pc [.ref (h 3), .ref (h a1), .int a2, .int a3, .int a4] (pIn wX D0 K0 h σ)) (va_Qi (fun r' u' => r' = r ∧ u' = u) (pOut wX D0 K0 h) (pA wX h)) 0 0 (pA wX h) := by
  refine p_metI (lv := [(0, .ref (h 3)), (1, .ref (h a1)), (2, .int a2), (3, .int a3), (4, .int a4)]) (by decide +kernel) rfl rfl (Nat.le_of_ble_eq_true rfl) rfl (fun X C hret => ?_)
  unfold fX2_paidWithout at hf
  refine g_aload_n C 0 dX2_paidWithout_0 rfl rfl ?_
  refine g_getC (n := 14) C in_X2_paidWithout_X2 (k := 4) lk_X2_paidWithout_0 rfl (Nat.le_of_ble_eq_true rfl) rfl (Nat.le_of_ble_eq_true rfl) rfl dX2_paidWithout_1 ?_
  refine g_iload_n C 3 dX2_paidWithout_4 rfl rfl ?_
  refine g_iald hf C rfl (Nat.le_of_ble_eq_true rfl) dX2_paidWithout_5 (fun hf => ?_)
  refine g_leti hf (fun x1 hf => ?_)
  refine g_istore C [1, 2, 3, 4, 5, 0] dX2_paidWithout_6 (Nat.le_of_ble_eq_true rfl) rfl ?_
  refine g_aload_n C 1 dX2_paidWithout_8 rfl rfl ?_
  refine g_iload_n C 3 dX2_paidWithout_9 rfl rfl ?_
  refine g_aload_n C 1 dX2_paidWithout_10 rfl rfl ?_
  refine g_iload_n C 3 dX2_paidWithout_11 rfl rfl ?_
  obtain ⟨hg2, hf⟩ := g_guard hf
  obtain ⟨r4, hc3, hf⟩ := g_bind hf
  refine g_callVi C (mX3_peopleOut l0 D0 K0 h σ a1 a3 hc3) gX2_paidWithout_X3_peopleOut rfl rfl rfl ddX3_peopleOut ⟨(Nat.le_of_ble_eq_true rfl), (Nat.le_of_ble_eq_true rfl)⟩ (shV hg2) (ltV hg2) rfl rfl rfl (Nat.le_of_ble_eq_true rfl) dX2_paidWithout_12 ?_
  refine g_iconst C dX2_paidWithout_15 ic_1 ?_
  refine g_iload_n C 2 dX2_paidWithout_16 rfl rfl ?_
  refine g_ishl C dX2_paidWithout_17 ?_
  refine g_iconst C dX2_paidWithout_18 ic_m1 ?_
  refine g_ixor C dX2_paidWithout_19 ?_
  refine g_iand C dX2_paidWithout_20 ?_
  obtain ⟨r6, hc5, hf⟩ := g_bind hf
  refine g_callVi C (mX3_payableDebts l0 D0 K0 h σ a1 a3 (r4 &&& (((1 : Int32) <<< (a2 &&& 31)) ^^^ (-1 : Int32))) hc5) gX2_paidWithout_X3_payableDebts rfl rfl rfl ddX3_payableDebts ⟨(Nat.le_of_ble_eq_true rfl), (Nat.le_of_ble_eq_true rfl)⟩ (shV hg2) (ltV hg2) rfl rfl rfl (Nat.le_of_ble_eq_true rfl) dX2_paidWithout_21 ?_
  refine g_istore C [1, 2, 3, 4, 5, 6, 0] dX2_paidWithout_24 (Nat.le_of_ble_eq_true rfl) rfl ?_
  refine g_iload C 6 dX2_paidWithout_26 rfl ?_
  refine g_iload C 5 dX2_paidWithout_28 rfl ?_
  refine g_icmp_ne (tgt := 36) hf C dX2_paidWithout_30 (by decide) (fun hf => ?_) (fun hf => ?_)
  · refine g_aload_n C 0 dX2_paidWithout_36 rfl rfl ?_
    refine g_getC (n := 14) C in_X2_paidWithout_X2 (k := 4) lk_X2_paidWithout_0 rfl (Nat.le_of_ble_eq_true rfl) rfl (Nat.le_of_ble_eq_true rfl) rfl dX2_paidWithout_37 ?_
    refine g_iload_n C 3 dX2_paidWithout_40 rfl rfl ?_
    refine g_iload C 6 dX2_paidWithout_41 rfl ?_
    refine g_iast hf C rfl (Nat.le_of_ble_eq_true rfl) dX2_paidWithout_43 (fun hf => ?_)
    refine g_lets hf (fun σ7 hf => ?_)
    refine g_aload_n C 0 dX2_paidWithout_44 rfl rfl ?_
    refine g_iload_n C 3 dX2_paidWithout_45 rfl rfl ?_
    obtain ⟨r9, σ10, hc8, hf⟩ := g_pbind hf
    refine g_callVv C (mX2_solveBackFrom l0 D0 K0 h σ7 a3 hc8) gX2_paidWithout_X2_solveBackFrom rfl rfl rfl ddX2_solveBackFrom ⟨(Nat.le_of_ble_eq_true rfl), (Nat.le_of_ble_eq_true rfl)⟩ rfl (Nat.le_of_ble_eq_true rfl) rfl rfl rfl (Nat.le_of_ble_eq_true rfl) dX2_paidWithout_46 ?_
    refine g_aload_n C 0 dX2_paidWithout_49 rfl rfl ?_
    obtain ⟨r12, σ13, hc11, hf⟩ := g_pbind hf
    refine g_callVv C (mX2_trace l0 D0 K0 h σ10 hc11) gX2_paidWithout_X2_trace rfl rfl rfl ddX2_trace ⟨(Nat.le_of_ble_eq_true rfl), (Nat.le_of_ble_eq_true rfl)⟩ rfl (Nat.le_of_ble_eq_true rfl) rfl rfl rfl (Nat.le_of_ble_eq_true rfl) dX2_paidWithout_50 ?_
    refine g_aload_n C 0 dX2_paidWithout_53 rfl rfl ?_
    refine g_getC (n := 14) C in_X2_paidWithout_X2 (k := 4) lk_X2_paidWithout_0 rfl (Nat.le_of_ble_eq_true rfl) rfl (Nat.le_of_ble_eq_true rfl) rfl dX2_paidWithout_54 ?_
    refine g_iload_n C 3 dX2_paidWithout_57 rfl rfl ?_
    refine g_iload C 5 dX2_paidWithout_58 rfl ?_
    refine g_iast hf C rfl (Nat.le_of_ble_eq_true rfl) dX2_paidWithout_60 (fun hf => ?_)
    refine g_lets hf (fun σ14 hf => ?_)
    refine g_aload_n C 0 dX2_paidWithout_61 rfl rfl ?_
    refine g_aload_n C 1 dX2_paidWithout_62 rfl rfl ?_
    refine g_iload_n C 2 dX2_paidWithout_63 rfl rfl ?_
    obtain ⟨r16, hc15, hf⟩ := g_bind hf
    refine g_callVi C (mX2_paidTo l0 D0 K0 h σ14 a1 a2 hc15) gX2_paidWithout_X2_paidTo rfl rfl rfl ddX2_paidTo ⟨(Nat.le_of_ble_eq_true rfl), (Nat.le_of_ble_eq_true rfl)⟩ rfl (Nat.le_of_ble_eq_true rfl) rfl rfl rfl (Nat.le_of_ble_eq_true rfl) dX2_paidWithout_64 ?_
    exact g_retiW hf hret dX2_paidWithout_67
  · refine g_iload C 4 dX2_paidWithout_33 rfl ?_
    exact g_retiW hf hret dX2_paidWithout_35
/-! X2_passOn -/
theorem in_X2_passOn_X2 : ∀ q ∈ u_ws RX2 TX2 12, q ∈ wsX2_passOn := by decide +kernel
theorem lk_X2_passOn_0 : Cond.fieldLink RX2 37 "EmptyHouse$Rounds" "roundCounts" "[J" ∈ wsX2_passOn := by decide +kernel
theorem lk_X2_passOn_1 : Cond.fieldLink RX2 26 "EmptyHouse$Rounds" "payable" "[I" ∈ wsX2_passOn := by decide +kernel
theorem lk_X2_passOn_2 : Cond.fieldLink RX2 18 "EmptyHouse$Rounds" "fits" "[Z" ∈ wsX2_passOn := by decide +kernel
theorem lk_X2_passOn_3 : Cond.fieldLink RX2 31 "EmptyHouse$Rounds" "restLoss" "[[I" ∈ wsX2_passOn := by decide +kernel
theorem ddX2_passOn : yX2_passOn.cls = RX2 ∧ yX2_passOn.cls ≠ "java/lang/invoke/MethodHandle" ∧ yX2_passOn.cls ≠ "java/lang/invoke/VarHandle" ∧ (parseMethodDescriptor yX2_passOn.desc).map (fun d => d.parameters.length) = some 2 := by decide +kernel
set_option maxHeartbeats 4000000 in
set_option maxRecDepth 100000 in
theorem lX2_passOn_23_ok {h : Nat → Nat} {X : Cx} {l0 : Launch} {D0 : va_G} {K0 : Nat → ClassId} (p1 : Int32) (p2 : Int32) (p3 : Int64) (p5 : Int32) {k82 : pS → Option (Unit × pS)} {r : Unit} {u : pS} (C : Cok wX h X l0 ({ frames := 1, cells := 0, slots := 0, locals := 23 } : Room) D0 K0 cX2_passOn 7 RX2 wsX2_passOn) (hret : ∀ (pc : Nat) (lv' : List (Nat × Value)), decode cX2_passOn pc = .ok (.return_, 1) → G wX h X pc lv' [] u) (hk82 : ∀  (σ : pS), k82 σ = some (r, u) → G wX h X 82 [(0, .ref (h 3)), (1, .int p1), (2, .int p2)] [] σ) : ∀ (F : Nat) (v6 : Int32) (σ : pS), lX2_passOn_23 p1 p2 p3 p5 k82 F v6 σ = some (r, u) → G wX h X 23 [(0, .ref (h 3)), (1, .int p1), (2, .int p2), (3, .long p3), (5, .int p5), (6, .int v6)] [] σ := by
  intro F
  induction F with
  | zero => intro v6 σ hf; exact absurd hf (by simp [lX2_passOn_23])
  | succ F ih =>
    intro v6 σ hf
    rw [lX2_passOn_23.eq_2] at hf
    refine g_iload C 5 dX2_passOn_23 rfl ?_
    refine g_if_le (tgt := 82) hf C dX2_passOn_25 (by decide) (fun hf => ?_) (fun hf => ?_)
    · refine g_lv [0, 1, 2] rfl ?_
      exact hk82 σ hf
    · refine g_aload_n C 0 dX2_passOn_28 rfl rfl ?_
      refine g_getC (n := 12) C in_X2_passOn_X2 (k := 2) lk_X2_passOn_2 rfl (Nat.le_of_ble_eq_true rfl) rfl (Nat.le_of_ble_eq_true rfl) rfl dX2_passOn_29 ?_
      refine g_iload C 5 dX2_passOn_32 rfl ?_
      refine g_zald hf C rfl (Nat.le_of_ble_eq_true rfl) dX2_passOn_34 (fun hf => ?_)
      refine g_join (P := fun j => ∀ (σ4 : pS), j σ4 = some (r, u) → G wX h X 70 [(0, .ref (h 3)), (1, .int p1), (2, .int p2), (3, .long p3), (5, .int p5), (6, .int v6)] [] σ4) hf (fun σ4 hf => ?_) (fun j3 hj3 hf => ?_)
      · refine g_iload C 5 dX2_passOn_70 rfl ?_
        refine g_iconst C dX2_passOn_72 ic_1 ?_
        refine g_isub C dX2_passOn_73 ?_
        refine g_iload C 4 dX2_passOn_74 rfl ?_
        refine g_iand C dX2_passOn_76 ?_
        refine g_leti hf (fun x5 hf => ?_)
        refine g_istore C [1, 2, 3, 4, 5, 0] dX2_passOn_77 (Nat.le_of_ble_eq_true rfl) rfl ?_
        refine g_goto (tgt := 23) C dX2_passOn_79 (by decide) ?_
        exact ih x5 σ4 hf
      · refine g_if_eq (tgt := 70) hf C dX2_passOn_35 (by decide) (fun hf => ?_) (fun hf => ?_)
        · exact hj3 σ hf
        · refine g_aload_n C 0 dX2_passOn_38 rfl rfl ?_
          refine g_iload_n C 1 dX2_passOn_39 rfl rfl ?_
          refine g_iload_n C 2 dX2_passOn_40 rfl rfl ?_
          refine g_iload C 5 dX2_passOn_41 rfl ?_
          obtain ⟨r7, hc6, hf⟩ := g_bind hf
          refine g_callVi C (mX2_lossBy l0 D0 K0 h σ p1 p2 v6 hc6) gX2_passOn_X2_lossBy rfl rfl rfl ddX2_lossBy ⟨(Nat.le_of_ble_eq_true rfl), (Nat.le_of_ble_eq_true rfl)⟩ rfl (Nat.le_of_ble_eq_true rfl) rfl rfl rfl (Nat.le_of_ble_eq_true rfl) dX2_passOn_43 ?_
          refine g_aload_n C 0 dX2_passOn_46 rfl rfl ?_
          refine g_getC (n := 15) C in_X2_passOn_X2 (k := 5) lk_X2_passOn_3 rfl (Nat.le_of_ble_eq_true rfl) rfl (Nat.le_of_ble_eq_true rfl) rfl dX2_passOn_47 ?_
          refine g_iload_n C 1 dX2_passOn_50 rfl rfl ?_
          refine g_aald hf C rfl (by decide) (Nat.le_of_ble_eq_true rfl) dX2_passOn_51 (fun hp8 hf => ?_)
          refine g_iload_n C 2 dX2_passOn_52 rfl rfl ?_
          refine g_iald hf C (sh_rest _ (pin_lt hp8)).1 (sh_rest _ (pin_lt hp8)).2 dX2_passOn_53 (fun hf => ?_)
          refine g_icmp_ne (tgt := 70) hf C dX2_passOn_54 (by decide) (fun hf => ?_) (fun hf => ?_)
          · exact hj3 σ hf
          · refine g_aload_n C 0 dX2_passOn_57 rfl rfl ?_
            refine g_getC (n := 17) C in_X2_passOn_X2 (k := 7) lk_X2_passOn_0 rfl (Nat.le_of_ble_eq_true rfl) rfl (Nat.le_of_ble_eq_true rfl) rfl dX2_passOn_58 ?_
            refine g_iload_n C 2 dX2_passOn_61 rfl rfl ?_
            refine g_iload C 5 dX2_passOn_62 rfl ?_
            refine g_ior C dX2_passOn_64 ?_
            refine g_dup2 C dX2_passOn_65 rfl rfl ?_
            refine g_lald hf C rfl (Nat.le_of_ble_eq_true rfl) dX2_passOn_66 (fun hf => ?_)
            refine g_lload_n C 3 dX2_passOn_67 rfl rfl ?_
            refine g_ladd C dX2_passOn_68 ?_
            refine g_last hf C rfl (Nat.le_of_ble_eq_true rfl) dX2_passOn_69 (fun hf => ?_)
            refine g_lets hf (fun σ9 hf => ?_)
            exact hj3 σ9 hf
set_option maxHeartbeats 4000000 in
set_option maxRecDepth 100000 in
theorem mX2_passOn (l0 : Launch) (D0 : va_G) (K0 : Nat → ClassId) (h : Nat → Nat) (σ : pS) (a1 : Int32) (a2 : Int32) {r : Unit} {u : pS} (hf : fX2_passOn σ a1 a2 = some (r, u)) : Met l0 yX2_passOn wsX2_passOn ({ frames := 1, cells := 0, slots := 0, locals := 23 } : Room) (va_Pc [.ref (h 3), .int a1, .int a2] (pIn wX D0 K0 h σ)) (va_Qv (fun u' => u' = u) (pOut wX D0 K0 h) (pA wX h)) 0 0 (pA wX h) := by
  refine p_metV (lv := [(0, .ref (h 3)), (1, .int a1), (2, .int a2)]) (by decide +kernel) rfl rfl (Nat.le_of_ble_eq_true rfl) rfl (fun X C hret => ?_)
  unfold fX2_passOn at hf
  refine g_aload_n C 0 dX2_passOn_0 rfl rfl ?_
  refine g_getC (n := 17) C in_X2_passOn_X2 (k := 7) lk_X2_passOn_0 rfl (Nat.le_of_ble_eq_true rfl) rfl (Nat.le_of_ble_eq_true rfl) rfl dX2_passOn_1 ?_
  refine g_iload_n C 2 dX2_passOn_4 rfl rfl ?_
  refine g_lald hf C rfl (Nat.le_of_ble_eq_true rfl) dX2_passOn_5 (fun hf => ?_)
  refine g_letl hf (fun x1 hf => ?_)
  refine g_lstore_n C [1, 2, 3, 0] dX2_passOn_6 rfl (Nat.le_of_ble_eq_true rfl) rfl ?_
  refine g_aload_n C 0 dX2_passOn_7 rfl rfl ?_
  refine g_getC (n := 14) C in_X2_passOn_X2 (k := 4) lk_X2_passOn_1 rfl (Nat.le_of_ble_eq_true rfl) rfl (Nat.le_of_ble_eq_true rfl) rfl dX2_passOn_8 ?_
  refine g_iload_n C 1 dX2_passOn_11 rfl rfl ?_
  refine g_iald hf C rfl (Nat.le_of_ble_eq_true rfl) dX2_passOn_12 (fun hf => ?_)
  refine g_iload_n C 2 dX2_passOn_13 rfl rfl ?_
  refine g_iconst C dX2_passOn_14 ic_m1 ?_
  refine g_ixor C dX2_passOn_15 ?_
  refine g_iand C dX2_passOn_16 ?_
  refine g_leti hf (fun x2 hf => ?_)
  refine g_istore C [1, 2, 3, 4, 0] dX2_passOn_17 (Nat.le_of_ble_eq_true rfl) rfl ?_
  refine g_iload C 4 dX2_passOn_19 rfl ?_
  refine g_istore C [1, 2, 3, 4, 5, 0] dX2_passOn_21 (Nat.le_of_ble_eq_true rfl) rfl ?_
  refine lX2_passOn_23_ok a1 a2 x1 x2 C hret (fun σ10 hf => ?_) FU x2 σ hf
  refine g_aload_n C 0 dX2_passOn_82 rfl rfl ?_
  refine g_getC (n := 15) C in_X2_passOn_X2 (k := 5) lk_X2_passOn_3 rfl (Nat.le_of_ble_eq_true rfl) rfl (Nat.le_of_ble_eq_true rfl) rfl dX2_passOn_83 ?_
  refine g_iload_n C 1 dX2_passOn_86 rfl rfl ?_
  refine g_iconst C dX2_passOn_87 ic_1 ?_
  refine g_iadd C dX2_passOn_88 ?_
  refine g_aald hf C rfl (by decide) (Nat.le_of_ble_eq_true rfl) dX2_passOn_89 (fun hp11 hf => ?_)
  refine g_iload_n C 2 dX2_passOn_90 rfl rfl ?_
  refine g_iald hf C (sh_rest _ (pin_lt hp11)).1 (sh_rest _ (pin_lt hp11)).2 dX2_passOn_91 (fun hf => ?_)
  refine g_aload_n C 0 dX2_passOn_92 rfl rfl ?_
  refine g_getC (n := 15) C in_X2_passOn_X2 (k := 5) lk_X2_passOn_3 rfl (Nat.le_of_ble_eq_true rfl) rfl (Nat.le_of_ble_eq_true rfl) rfl dX2_passOn_93 ?_
  refine g_iload_n C 1 dX2_passOn_96 rfl rfl ?_
  refine g_aald hf C rfl (by decide) (Nat.le_of_ble_eq_true rfl) dX2_passOn_97 (fun hp12 hf => ?_)
  refine g_iload_n C 2 dX2_passOn_98 rfl rfl ?_
  refine g_iald hf C (sh_rest _ (pin_lt hp12)).1 (sh_rest _ (pin_lt hp12)).2 dX2_passOn_99 (fun hf => ?_)
  refine g_icmp_eq (tgt := 110) hf C dX2_passOn_100 (by decide) (fun hf => ?_) (fun hf => ?_)
  · exact g_retvW hf hret dX2_passOn_110
  · refine g_aload_n C 0 dX2_passOn_103 rfl rfl ?_
    refine g_getC (n := 17) C in_X2_passOn_X2 (k := 7) lk_X2_passOn_0 rfl (Nat.le_of_ble_eq_true rfl) rfl (Nat.le_of_ble_eq_true rfl) rfl dX2_passOn_104 ?_
    refine g_iload_n C 2 dX2_passOn_107 rfl rfl ?_
    refine g_lconst C dX2_passOn_108 lc_0 ?_
    refine g_last hf C rfl (Nat.le_of_ble_eq_true rfl) dX2_passOn_109 (fun hf => ?_)
    refine g_lets hf (fun σ13 hf => ?_)
    exact g_retvW hf hret dX2_passOn_110
/-! X2_countBest -/
theorem in_X2_countBest_X2 : ∀ q ∈ u_ws RX2 TX2 12, q ∈ wsX2_countBest := by decide +kernel
theorem lk_X2_countBest_0 : Cond.fieldLink RX2 37 "EmptyHouse$Rounds" "roundCounts" "[J" ∈ wsX2_countBest := by decide +kernel
theorem lk_X2_countBest_1 : Cond.fieldLink RX2 15 "EmptyHouse$Rounds" "all" "I" ∈ wsX2_countBest := by decide +kernel
theorem ddX2_countBest : yX2_countBest.cls = RX2 ∧ yX2_countBest.cls ≠ "java/lang/invoke/MethodHandle" ∧ yX2_countBest.cls ≠ "java/lang/invoke/VarHandle" ∧ (parseMethodDescriptor yX2_countBest.desc).map (fun d => d.parameters.length) = some 0 := by decide +kernel
set_option maxHeartbeats 4000000 in
set_option maxRecDepth 100000 in
theorem lX2_countBest_28_ok {h : Nat → Nat} {X : Cx} {l0 : Launch} {D0 : va_G} {K0 : Nat → ClassId} (p1 : Int32) {k55 : pS → Option (Int64 × pS)} {r : Int64} {u : pS} (C : Cok wX h X l0 ({ frames := 2, cells := 0, slots := 0, locals := 49 } : Room) D0 K0 cX2_countBest 4 RX2 wsX2_countBest) (hret : ∀ (pc : Nat) (lv' : List (Nat × Value)), decode cX2_countBest pc = .ok (.lreturn, 1) → G wX h X pc lv' [.long r] u) (hk55 : ∀  (σ : pS), k55 σ = some (r, u) → G wX h X 55 [(0, .ref (h 3)), (1, .int p1)] [] σ) : ∀ (F : Nat) (v2 : Int32) (σ : pS), lX2_countBest_28 p1 k55 F v2 σ = some (r, u) → G wX h X 28 [(0, .ref (h 3)), (1, .int p1), (2, .int v2)] [] σ := by
  intro F
  induction F with
  | zero => intro v2 σ hf; exact absurd hf (by simp [lX2_countBest_28])
  | succ F ih =>
    intro v2 σ hf
    rw [lX2_countBest_28.eq_2] at hf
    refine g_iload_n C 2 dX2_countBest_28 rfl rfl ?_
    refine g_if_lt (tgt := 55) hf C dX2_countBest_29 (by decide) (fun hf => ?_) (fun hf => ?_)
    · refine g_lv [0, 1] rfl ?_
      exact hk55 σ hf
    · refine g_aload_n C 0 dX2_countBest_32 rfl rfl ?_
      refine g_getC (n := 17) C in_X2_countBest_X2 (k := 7) lk_X2_countBest_0 rfl (Nat.le_of_ble_eq_true rfl) rfl (Nat.le_of_ble_eq_true rfl) rfl dX2_countBest_33 ?_
      refine g_iload_n C 2 dX2_countBest_36 rfl rfl ?_
      refine g_lald hf C rfl (Nat.le_of_ble_eq_true rfl) dX2_countBest_37 (fun hf => ?_)
      refine g_lconst C dX2_countBest_38 lc_0 ?_
      refine g_lcmp C dX2_countBest_39 ?_
      refine g_if_eq (tgt := 49) hf C dX2_countBest_40 (by decide) (fun hf => ?_) (fun hf => ?_)
      · refine g_iinc C 2 [1, 2, 0] dX2_countBest_49 rfl ic_m1 (Nat.le_of_ble_eq_true rfl) rfl ?_
        refine g_goto (tgt := 28) C dX2_countBest_52 (by decide) ?_
        exact ih (v2 + (-1 : Int32)) σ hf
      · refine g_aload_n C 0 dX2_countBest_43 rfl rfl ?_
        refine g_iload_n C 1 dX2_countBest_44 rfl rfl ?_
        refine g_iload_n C 2 dX2_countBest_45 rfl rfl ?_
        obtain ⟨r7, σ8, hc6, hf⟩ := g_pbind hf
        refine g_callVv C (mX2_passOn l0 D0 K0 h σ p1 v2 hc6) gX2_countBest_X2_passOn rfl rfl rfl ddX2_passOn ⟨(Nat.le_of_ble_eq_true rfl), (Nat.le_of_ble_eq_true rfl)⟩ rfl (Nat.le_of_ble_eq_true rfl) rfl rfl rfl (Nat.le_of_ble_eq_true rfl) dX2_countBest_46 ?_
        refine g_iinc C 2 [1, 2, 0] dX2_countBest_49 rfl ic_m1 (Nat.le_of_ble_eq_true rfl) rfl ?_
        refine g_goto (tgt := 28) C dX2_countBest_52 (by decide) ?_
        exact ih (v2 + (-1 : Int32)) σ8 hf
set_option maxHeartbeats 4000000 in
set_option maxRecDepth 100000 in
theorem lX2_countBest_17_ok {h : Nat → Nat} {X : Cx} {l0 : Launch} {D0 : va_G} {K0 : Nat → ClassId} {k61 : pS → Option (Int64 × pS)} {r : Int64} {u : pS} (C : Cok wX h X l0 ({ frames := 2, cells := 0, slots := 0, locals := 49 } : Room) D0 K0 cX2_countBest 4 RX2 wsX2_countBest) (hret : ∀ (pc : Nat) (lv' : List (Nat × Value)), decode cX2_countBest pc = .ok (.lreturn, 1) → G wX h X pc lv' [.long r] u) (hk61 : ∀  (σ : pS), k61 σ = some (r, u) → G wX h X 61 [(0, .ref (h 3))] [] σ) : ∀ (F : Nat) (v1 : Int32) (σ : pS), lX2_countBest_17 k61 F v1 σ = some (r, u) → G wX h X 17 [(0, .ref (h 3)), (1, .int v1)] [] σ := by
  intro F
  induction F with
  | zero => intro v1 σ hf; exact absurd hf (by simp [lX2_countBest_17])
  | succ F ih =>
    intro v1 σ hf
    rw [lX2_countBest_17.eq_2] at hf
    refine g_iload_n C 1 dX2_countBest_17 rfl rfl ?_
    refine g_bipush C dX2_countBest_18 bp_12 ?_
    refine g_icmp_ge (tgt := 61) hf C dX2_countBest_20 (by decide) (fun hf => ?_) (fun hf => ?_)
    · refine g_lv [0] rfl ?_
      exact hk61 σ hf
    · refine g_aload_n C 0 dX2_countBest_23 rfl rfl ?_
      refine g_getI C in_X2_countBest_X2 (k := 1) lk_X2_countBest_1 rfl (Nat.le_of_ble_eq_true rfl) rfl (Nat.le_of_ble_eq_true rfl) rfl dX2_countBest_24 ?_
      refine g_leti hf (fun x5 hf => ?_)
      refine g_istore_n C [1, 2, 0] dX2_countBest_27 rfl (Nat.le_of_ble_eq_true rfl) rfl ?_
      refine lX2_countBest_28_ok v1 C hret (fun σ9 hf => ?_) FU x5 σ hf
      refine g_iinc C 1 [1, 0] dX2_countBest_55 rfl ic_1 (Nat.le_of_ble_eq_true rfl) rfl ?_
      refine g_goto (tgt := 17) C dX2_countBest_58 (by decide) ?_
      exact ih (v1 + (1 : Int32)) σ9 hf
set_option maxHeartbeats 4000000 in
set_option maxRecDepth 100000 in
theorem lX2_countBest_65_ok {h : Nat → Nat} {X : Cx} {l0 : Launch} {D0 : va_G} {K0 : Nat → ClassId} (σ : pS) {k88 : Int64 → Option (Int64 × pS)} {r : Int64} {u : pS} (C : Cok wX h X l0 ({ frames := 2, cells := 0, slots := 0, locals := 49 } : Room) D0 K0 cX2_countBest 4 RX2 wsX2_countBest) (hret : ∀ (pc : Nat) (lv' : List (Nat × Value)), decode cX2_countBest pc = .ok (.lreturn, 1) → G wX h X pc lv' [.long r] u) (hk88 : ∀ (z1 : Int64), k88 z1 = some (r, u) → G wX h X 88 [(1, .long z1)] [] σ) : ∀ (F : Nat) (v1 : Int64) (v3 : Int32), lX2_countBest_65 σ k88 F v1 v3 = some (r, u) → G wX h X 65 [(0, .ref (h 3)), (1, .long v1), (3, .int v3)] [] σ := by
  intro F
  induction F with
  | zero => intro v1 v3 hf; exact absurd hf (by simp [lX2_countBest_65])
  | succ F ih =>
    intro v1 v3 hf
    rw [lX2_countBest_65.eq_2] at hf
    refine g_iload_n C 2 dX2_countBest_65 rfl rfl ?_
    refine g_aload_n C 0 dX2_countBest_66 rfl rfl ?_
    refine g_getI C in_X2_countBest_X2 (k := 1) lk_X2_countBest_1 rfl (Nat.le_of_ble_eq_true rfl) rfl (Nat.le_of_ble_eq_true rfl) rfl dX2_countBest_67 ?_
    refine g_icmp_gt (tgt := 88) hf C dX2_countBest_70 (by decide) (fun hf => ?_) (fun hf => ?_)
    · refine g_lv [1] rfl ?_
      exact hk88 v1 hf
    · refine g_lload_n C 1 dX2_countBest_73 rfl rfl ?_
      refine g_aload_n C 0 dX2_countBest_74 rfl rfl ?_
      refine g_getC (n := 17) C in_X2_countBest_X2 (k := 7) lk_X2_countBest_0 rfl (Nat.le_of_ble_eq_true rfl) rfl (Nat.le_of_ble_eq_true rfl) rfl dX2_countBest_75 ?_
      refine g_iload_n C 2 dX2_countBest_78 rfl rfl ?_
      refine g_lald hf C rfl (Nat.le_of_ble_eq_true rfl) dX2_countBest_79 (fun hf => ?_)
      refine g_ladd C dX2_countBest_80 ?_
      refine g_letl hf (fun x11 hf => ?_)
      refine g_lstore_n C [1, 0, 2] dX2_countBest_81 rfl (Nat.le_of_ble_eq_true rfl) rfl ?_
      refine g_iinc C 2 [1, 2, 0] dX2_countBest_82 rfl ic_1 (Nat.le_of_ble_eq_true rfl) rfl ?_
      refine g_goto (tgt := 65) C dX2_countBest_85 (by decide) ?_
      exact ih x11 (v3 + (1 : Int32)) hf
set_option maxHeartbeats 4000000 in
set_option maxRecDepth 100000 in
theorem mX2_countBest (l0 : Launch) (D0 : va_G) (K0 : Nat → ClassId) (h : Nat → Nat) (σ : pS)  {r : Int64} {u : pS} (hf : fX2_countBest σ = some (r, u)) : Met l0 yX2_countBest wsX2_countBest ({ frames := 2, cells := 0, slots := 0, locals := 49 } : Room) (va_Pc [.ref (h 3)] (pIn wX D0 K0 h σ)) (va_Ql (fun r' u' => r' = r ∧ u' = u) (pOut wX D0 K0 h) (pA wX h)) 0 0 (pA wX h) := by
  refine p_metL (lv := [(0, .ref (h 3))]) (by decide +kernel) rfl rfl (Nat.le_of_ble_eq_true rfl) rfl (fun X C hret => ?_)
  unfold fX2_countBest at hf
  refine g_aload_n C 0 dX2_countBest_0 rfl rfl ?_
  refine g_getC (n := 17) C in_X2_countBest_X2 (k := 7) lk_X2_countBest_0 rfl (Nat.le_of_ble_eq_true rfl) rfl (Nat.le_of_ble_eq_true rfl) rfl dX2_countBest_1 ?_
  refine g_lconst C dX2_countBest_4 lc_0 ?_
  obtain ⟨r2, σ3, hc1, hf⟩ := g_pbind hf
  refine g_callSv C (mJ7_fill_d0a16 l0 D0 K0 h σ 17 (0 : Int64) hc1) gX2_countBest_J7_fill_d0a16 rfl rfl rfl ddJ7_fill_d0a16 ⟨(Nat.le_of_ble_eq_true rfl), (Nat.le_of_ble_eq_true rfl)⟩ rfl rfl (Nat.le_of_ble_eq_true rfl) dX2_countBest_5 ?_
  refine g_aload_n C 0 dX2_countBest_8 rfl rfl ?_
  refine g_getC (n := 17) C in_X2_countBest_X2 (k := 7) lk_X2_countBest_0 rfl (Nat.le_of_ble_eq_true rfl) rfl (Nat.le_of_ble_eq_true rfl) rfl dX2_countBest_9 ?_
  refine g_iconst C dX2_countBest_12 ic_0 ?_
  refine g_lconst C dX2_countBest_13 lc_1 ?_
  refine g_last hf C rfl (Nat.le_of_ble_eq_true rfl) dX2_countBest_14 (fun hf => ?_)
  refine g_lets hf (fun σ4 hf => ?_)
  refine g_iconst C dX2_countBest_15 ic_0 ?_
  refine g_istore_n C [1, 0] dX2_countBest_16 rfl (Nat.le_of_ble_eq_true rfl) rfl ?_
  refine lX2_countBest_17_ok  C hret (fun σ10 hf => ?_) FU (0 : Int32) σ4 hf
  refine g_lconst C dX2_countBest_61 lc_0 ?_
  refine g_lstore_n C [1, 0] dX2_countBest_62 rfl (Nat.le_of_ble_eq_true rfl) rfl ?_
  refine g_iconst C dX2_countBest_63 ic_0 ?_
  refine g_istore_n C [1, 2, 0] dX2_countBest_64 rfl (Nat.le_of_ble_eq_true rfl) rfl ?_
  refine lX2_countBest_65_ok σ10 C hret (fun y12 hf => ?_) FU (0 : Int64) (0 : Int32) hf
  refine g_lload_n C 0 dX2_countBest_88 rfl rfl ?_
  exact g_retlW hf hret dX2_countBest_89
/-! X2_startBefore -/
theorem in_X2_startBefore_X2 : ∀ q ∈ u_ws RX2 TX2 12, q ∈ wsX2_startBefore := by decide +kernel
theorem lk_X2_startBefore_0 : Cond.fieldLink RX2 34 "EmptyHouse$Rounds" "paidLoss" "[I" ∈ wsX2_startBefore := by decide +kernel
theorem lk_X2_startBefore_1 : Cond.constant RX2 124 (1000000) ∈ wsX2_startBefore := by decide +kernel
theorem ddX2_startBefore : yX2_startBefore.cls = RX2 ∧ yX2_startBefore.cls ≠ "java/lang/invoke/MethodHandle" ∧ yX2_startBefore.cls ≠ "java/lang/invoke/VarHandle" ∧ (parseMethodDescriptor yX2_startBefore.desc).map (fun d => d.parameters.length) = some 0 := by decide +kernel
set_option maxHeartbeats 4000000 in
set_option maxRecDepth 100000 in
theorem mX2_startBefore (l0 : Launch) (D0 : va_G) (K0 : Nat → ClassId) (h : Nat → Nat) (σ : pS)  {r : Unit} {u : pS} (hf : fX2_startBefore σ = some (r, u)) : Met l0 yX2_startBefore wsX2_startBefore ({ frames := 1, cells := 0, slots := 0, locals := 23 } : Room) (va_Pc [.ref (h 3)] (pIn wX D0 K0 h σ)) (va_Qv (fun u' => u' = u) (pOut wX D0 K0 h) (pA wX h)) 0 0 (pA wX h) := by
  refine p_metV (lv := [(0, .ref (h 3))]) (by decide +kernel) rfl rfl (Nat.le_of_ble_eq_true rfl) rfl (fun X C hret => ?_)
  unfold fX2_startBefore at hf
  refine g_aload_n C 0 dX2_startBefore_0 rfl rfl ?_
  refine g_getC (n := 16) C in_X2_startBefore_X2 (k := 6) lk_X2_startBefore_0 rfl (Nat.le_of_ble_eq_true rfl) rfl (Nat.le_of_ble_eq_true rfl) rfl dX2_startBefore_1 ?_
  refine g_ldc C lk_X2_startBefore_1 dX2_startBefore_4 ?_
  obtain ⟨r2, σ3, hc1, hf⟩ := g_pbind hf
  refine g_callSv C (mJ7_fill_53178 l0 D0 K0 h σ 16 (1000000 : Int32) hc1) gX2_startBefore_J7_fill_53178 rfl rfl rfl ddJ7_fill_53178 ⟨(Nat.le_of_ble_eq_true rfl), (Nat.le_of_ble_eq_true rfl)⟩ rfl rfl (Nat.le_of_ble_eq_true rfl) dX2_startBefore_6 ?_
  refine g_aload_n C 0 dX2_startBefore_9 rfl rfl ?_
  refine g_getC (n := 16) C in_X2_startBefore_X2 (k := 6) lk_X2_startBefore_0 rfl (Nat.le_of_ble_eq_true rfl) rfl (Nat.le_of_ble_eq_true rfl) rfl dX2_startBefore_10 ?_
  refine g_iconst C dX2_startBefore_13 ic_0 ?_
  refine g_iconst C dX2_startBefore_14 ic_0 ?_
  refine g_iast hf C rfl (Nat.le_of_ble_eq_true rfl) dX2_startBefore_15 (fun hf => ?_)
  refine g_lets hf (fun σ4 hf => ?_)
  exact g_retvW hf hret dX2_startBefore_16
/-! X2_passHour -/
theorem in_X2_passHour_X2 : ∀ q ∈ u_ws RX2 TX2 12, q ∈ wsX2_passHour := by decide +kernel
theorem lk_X2_passHour_0 : Cond.fieldLink RX2 15 "EmptyHouse$Rounds" "all" "I" ∈ wsX2_passHour := by decide +kernel
theorem lk_X2_passHour_1 : Cond.fieldLink RX2 26 "EmptyHouse$Rounds" "payable" "[I" ∈ wsX2_passHour := by decide +kernel
theorem lk_X2_passHour_2 : Cond.fieldLink RX2 34 "EmptyHouse$Rounds" "paidLoss" "[I" ∈ wsX2_passHour := by decide +kernel
theorem lk_X2_passHour_3 : Cond.fieldLink RX2 18 "EmptyHouse$Rounds" "fits" "[Z" ∈ wsX2_passHour := by decide +kernel
theorem lk_X2_passHour_4 : Cond.fieldLink RX2 22 "EmptyHouse$Rounds" "rate" "[I" ∈ wsX2_passHour := by decide +kernel
theorem lk_X2_passHour_5 : Cond.methodLink RX2 92 Lib.Math.min.name ∈ wsX2_passHour := by decide +kernel
theorem lk_X2_passHour_6 : Cond.static Lib.Math.min.name ∈ wsX2_passHour := by decide +kernel
theorem lk_X2_passHour_7 : Cond.initialized "java/lang/Math" ∈ wsX2_passHour := by decide +kernel
theorem lk_X2_passHour_8 : Cond.code Lib.Math.min.name Lib.Math.min.code 2 (some .int) ∈ wsX2_passHour := by decide +kernel
theorem ddX2_passHour : yX2_passHour.cls = RX2 ∧ yX2_passHour.cls ≠ "java/lang/invoke/MethodHandle" ∧ yX2_passHour.cls ≠ "java/lang/invoke/VarHandle" ∧ (parseMethodDescriptor yX2_passHour.desc).map (fun d => d.parameters.length) = some 1 := by decide +kernel
set_option maxHeartbeats 4000000 in
set_option maxRecDepth 100000 in
theorem lX2_passHour_29_ok {h : Nat → Nat} {X : Cx} {l0 : Launch} {D0 : va_G} {K0 : Nat → ClassId} (σ : pS) (p1 : Int32) (p2 : Int32) (p3 : Int32) {k83 : Int32 → Option (Unit × pS)} {r : Unit} {u : pS} (C : Cok wX h X l0 ({ frames := 1, cells := 0, slots := 0, locals := 21 } : Room) D0 K0 cX2_passHour 6 RX2 wsX2_passHour) (hret : ∀ (pc : Nat) (lv' : List (Nat × Value)), decode cX2_passHour pc = .ok (.return_, 1) → G wX h X pc lv' [] u) (hk83 : ∀ (z4 : Int32), k83 z4 = some (r, u) → G wX h X 83 [(0, .ref (h 3)), (1, .int p1), (2, .int p2), (4, .int z4)] [] σ) : ∀ (F : Nat) (v4 : Int32) (v5 : Int32), lX2_passHour_29 σ p1 p2 p3 k83 F v4 v5 = some (r, u) → G wX h X 29 [(0, .ref (h 3)), (1, .int p1), (2, .int p2), (3, .int p3), (4, .int v4), (5, .int v5)] [] σ := by
  intro F
  induction F with
  | zero => intro v4 v5 hf; exact absurd hf (by simp [lX2_passHour_29])
  | succ F ih =>
    intro v4 v5 hf
    rw [lX2_passHour_29.eq_2] at hf
    refine g_iload C 5 dX2_passHour_29 rfl ?_
    refine g_if_le (tgt := 83) hf C dX2_passHour_31 (by decide) (fun hf => ?_) (fun hf => ?_)
    · refine g_lv [0, 1, 2, 4] rfl ?_
      exact hk83 v4 hf
    · refine g_aload_n C 0 dX2_passHour_34 rfl rfl ?_
      refine g_getC (n := 12) C in_X2_passHour_X2 (k := 2) lk_X2_passHour_3 rfl (Nat.le_of_ble_eq_true rfl) rfl (Nat.le_of_ble_eq_true rfl) rfl dX2_passHour_35 ?_
      refine g_iload C 5 dX2_passHour_38 rfl ?_
      refine g_zald hf C rfl (Nat.le_of_ble_eq_true rfl) dX2_passHour_40 (fun hf => ?_)
      refine g_join (P := fun j => ∀ (y5 : Int32), j y5 = some (r, u) → G wX h X 72 [(0, .ref (h 3)), (1, .int p1), (2, .int p2), (3, .int p3), (4, .int y5), (5, .int v5)] [] σ) hf (fun y5 hf => ?_) (fun j4 hj4 hf => ?_)
      · refine g_iload C 5 dX2_passHour_72 rfl ?_
        refine g_iconst C dX2_passHour_74 ic_1 ?_
        refine g_isub C dX2_passHour_75 ?_
        refine g_iload_n C 3 dX2_passHour_76 rfl rfl ?_
        refine g_iand C dX2_passHour_77 ?_
        refine g_leti hf (fun x6 hf => ?_)
        refine g_istore C [1, 2, 3, 4, 5, 0] dX2_passHour_78 (Nat.le_of_ble_eq_true rfl) rfl ?_
        refine g_goto (tgt := 29) C dX2_passHour_80 (by decide) ?_
        exact ih y5 x6 hf
      · refine g_if_eq (tgt := 72) hf C dX2_passHour_41 (by decide) (fun hf => ?_) (fun hf => ?_)
        · exact hj4 v4 hf
        · refine g_iload C 4 dX2_passHour_44 rfl ?_
          refine g_aload_n C 0 dX2_passHour_46 rfl rfl ?_
          refine g_getC (n := 16) C in_X2_passHour_X2 (k := 6) lk_X2_passHour_2 rfl (Nat.le_of_ble_eq_true rfl) rfl (Nat.le_of_ble_eq_true rfl) rfl dX2_passHour_47 ?_
          refine g_iload_n C 2 dX2_passHour_50 rfl rfl ?_
          refine g_iload C 5 dX2_passHour_51 rfl ?_
          refine g_iconst C dX2_passHour_53 ic_m1 ?_
          refine g_ixor C dX2_passHour_54 ?_
          refine g_iand C dX2_passHour_55 ?_
          refine g_iald hf C rfl (Nat.le_of_ble_eq_true rfl) dX2_passHour_56 (fun hf => ?_)
          refine g_iload_n C 1 dX2_passHour_57 rfl rfl ?_
          refine g_aload_n C 0 dX2_passHour_58 rfl rfl ?_
          refine g_getC (n := 13) C in_X2_passHour_X2 (k := 3) lk_X2_passHour_4 rfl (Nat.le_of_ble_eq_true rfl) rfl (Nat.le_of_ble_eq_true rfl) rfl dX2_passHour_59 ?_
          refine g_iload C 5 dX2_passHour_62 rfl ?_
          refine g_iald hf C rfl (Nat.le_of_ble_eq_true rfl) dX2_passHour_64 (fun hf => ?_)
          refine g_imul C dX2_passHour_65 ?_
          refine g_iadd C dX2_passHour_66 ?_
          refine g_mmin C lk_X2_passHour_5 lk_X2_passHour_6 lk_X2_passHour_7 lk_X2_passHour_8 (Nat.le_of_ble_eq_true rfl) (Nat.le_of_ble_eq_true rfl) dX2_passHour_67 ?_
          refine g_leti hf (fun x7 hf => ?_)
          refine g_istore C [1, 2, 3, 4, 0, 5] dX2_passHour_70 (Nat.le_of_ble_eq_true rfl) rfl ?_
          exact hj4 x7 hf
set_option maxHeartbeats 4000000 in
set_option maxRecDepth 100000 in
theorem lX2_passHour_5_ok {h : Nat → Nat} {X : Cx} {l0 : Launch} {D0 : va_G} {K0 : Nat → ClassId} (p1 : Int32) {k97 : pS → Option (Unit × pS)} {r : Unit} {u : pS} (C : Cok wX h X l0 ({ frames := 1, cells := 0, slots := 0, locals := 21 } : Room) D0 K0 cX2_passHour 6 RX2 wsX2_passHour) (hret : ∀ (pc : Nat) (lv' : List (Nat × Value)), decode cX2_passHour pc = .ok (.return_, 1) → G wX h X pc lv' [] u) (hk97 : ∀  (σ : pS), k97 σ = some (r, u) → G wX h X 97 [] [] σ) : ∀ (F : Nat) (v2 : Int32) (σ : pS), lX2_passHour_5 p1 k97 F v2 σ = some (r, u) → G wX h X 5 [(0, .ref (h 3)), (1, .int p1), (2, .int v2)] [] σ := by
  intro F
  induction F with
  | zero => intro v2 σ hf; exact absurd hf (by simp [lX2_passHour_5])
  | succ F ih =>
    intro v2 σ hf
    rw [lX2_passHour_5.eq_2] at hf
    refine g_iload_n C 2 dX2_passHour_5 rfl rfl ?_
    refine g_if_lt (tgt := 97) hf C dX2_passHour_6 (by decide) (fun hf => ?_) (fun hf => ?_)
    · refine g_lv [] rfl ?_
      exact hk97 σ hf
    · refine g_aload_n C 0 dX2_passHour_9 rfl rfl ?_
      refine g_getC (n := 14) C in_X2_passHour_X2 (k := 4) lk_X2_passHour_1 rfl (Nat.le_of_ble_eq_true rfl) rfl (Nat.le_of_ble_eq_true rfl) rfl dX2_passHour_10 ?_
      refine g_iload_n C 1 dX2_passHour_13 rfl rfl ?_
      refine g_iald hf C rfl (Nat.le_of_ble_eq_true rfl) dX2_passHour_14 (fun hf => ?_)
      refine g_iload_n C 2 dX2_passHour_15 rfl rfl ?_
      refine g_iand C dX2_passHour_16 ?_
      refine g_leti hf (fun x2 hf => ?_)
      refine g_istore_n C [1, 2, 3, 0] dX2_passHour_17 rfl (Nat.le_of_ble_eq_true rfl) rfl ?_
      refine g_aload_n C 0 dX2_passHour_18 rfl rfl ?_
      refine g_getC (n := 16) C in_X2_passHour_X2 (k := 6) lk_X2_passHour_2 rfl (Nat.le_of_ble_eq_true rfl) rfl (Nat.le_of_ble_eq_true rfl) rfl dX2_passHour_19 ?_
      refine g_iload_n C 2 dX2_passHour_22 rfl rfl ?_
      refine g_iald hf C rfl (Nat.le_of_ble_eq_true rfl) dX2_passHour_23 (fun hf => ?_)
      refine g_leti hf (fun x3 hf => ?_)
      refine g_istore C [1, 2, 3, 4, 0] dX2_passHour_24 (Nat.le_of_ble_eq_true rfl) rfl ?_
      refine g_iload_n C 3 dX2_passHour_26 rfl rfl ?_
      refine g_istore C [1, 2, 3, 4, 5, 0] dX2_passHour_27 (Nat.le_of_ble_eq_true rfl) rfl ?_
      refine lX2_passHour_29_ok σ p1 v2 x2 C hret (fun y8 hf => ?_) FU x3 x2 hf
      refine g_aload_n C 0 dX2_passHour_83 rfl rfl ?_
      refine g_getC (n := 16) C in_X2_passHour_X2 (k := 6) lk_X2_passHour_2 rfl (Nat.le_of_ble_eq_true rfl) rfl (Nat.le_of_ble_eq_true rfl) rfl dX2_passHour_84 ?_
      refine g_iload_n C 2 dX2_passHour_87 rfl rfl ?_
      refine g_iload C 3 dX2_passHour_88 rfl ?_
      refine g_iast hf C rfl (Nat.le_of_ble_eq_true rfl) dX2_passHour_90 (fun hf => ?_)
      refine g_lets hf (fun σ9 hf => ?_)
      refine g_iinc C 2 [1, 2, 0] dX2_passHour_91 rfl ic_m1 (Nat.le_of_ble_eq_true rfl) rfl ?_
      refine g_goto (tgt := 5) C dX2_passHour_94 (by decide) ?_
      exact ih (v2 + (-1 : Int32)) σ9 hf
set_option maxHeartbeats 4000000 in
set_option maxRecDepth 100000 in
theorem mX2_passHour (l0 : Launch) (D0 : va_G) (K0 : Nat → ClassId) (h : Nat → Nat) (σ : pS) (a1 : Int32) {r : Unit} {u : pS} (hf : fX2_passHour σ a1 = some (r, u)) : Met l0 yX2_passHour wsX2_passHour ({ frames := 1, cells := 0, slots := 0, locals := 21 } : Room) (va_Pc [.ref (h 3), .int a1] (pIn wX D0 K0 h σ)) (va_Qv (fun u' => u' = u) (pOut wX D0 K0 h) (pA wX h)) 0 0 (pA wX h) := by
  refine p_metV (lv := [(0, .ref (h 3)), (1, .int a1)]) (by decide +kernel) rfl rfl (Nat.le_of_ble_eq_true rfl) rfl (fun X C hret => ?_)
  unfold fX2_passHour at hf
  refine g_aload_n C 0 dX2_passHour_0 rfl rfl ?_
  refine g_getI C in_X2_passHour_X2 (k := 1) lk_X2_passHour_0 rfl (Nat.le_of_ble_eq_true rfl) rfl (Nat.le_of_ble_eq_true rfl) rfl dX2_passHour_1 ?_
  refine g_leti hf (fun x1 hf => ?_)
  refine g_istore_n C [1, 2, 0] dX2_passHour_4 rfl (Nat.le_of_ble_eq_true rfl) rfl ?_
  refine lX2_passHour_5_ok a1 C hret (fun σ10 hf => ?_) FU x1 σ hf
  exact g_retvW hf hret dX2_passHour_97
/-! X2_lossBefore -/
theorem in_X2_lossBefore_X2 : ∀ q ∈ u_ws RX2 TX2 12, q ∈ wsX2_lossBefore := by decide +kernel
theorem lk_X2_lossBefore_0 : Cond.constant RX2 124 (1000000) ∈ wsX2_lossBefore := by decide +kernel
theorem lk_X2_lossBefore_1 : Cond.fieldLink RX2 15 "EmptyHouse$Rounds" "all" "I" ∈ wsX2_lossBefore := by decide +kernel
theorem lk_X2_lossBefore_2 : Cond.fieldLink RX2 34 "EmptyHouse$Rounds" "paidLoss" "[I" ∈ wsX2_lossBefore := by decide +kernel
theorem lk_X2_lossBefore_3 : Cond.fieldLink RX2 31 "EmptyHouse$Rounds" "restLoss" "[[I" ∈ wsX2_lossBefore := by decide +kernel
theorem lk_X2_lossBefore_4 : Cond.methodLink RX2 92 Lib.Math.min.name ∈ wsX2_lossBefore := by decide +kernel
theorem lk_X2_lossBefore_5 : Cond.static Lib.Math.min.name ∈ wsX2_lossBefore := by decide +kernel
theorem lk_X2_lossBefore_6 : Cond.initialized "java/lang/Math" ∈ wsX2_lossBefore := by decide +kernel
theorem lk_X2_lossBefore_7 : Cond.code Lib.Math.min.name Lib.Math.min.code 2 (some .int) ∈ wsX2_lossBefore := by decide +kernel
theorem ddX2_lossBefore : yX2_lossBefore.cls = RX2 ∧ yX2_lossBefore.cls ≠ "java/lang/invoke/MethodHandle" ∧ yX2_lossBefore.cls ≠ "java/lang/invoke/VarHandle" ∧ (parseMethodDescriptor yX2_lossBefore.desc).map (fun d => d.parameters.length) = some 0 := by decide +kernel
set_option maxHeartbeats 4000000 in
set_option maxRecDepth 100000 in
theorem lX2_lossBefore_5_ok {h : Nat → Nat} {X : Cx} {l0 : Launch} {D0 : va_G} {K0 : Nat → ClassId} (σ : pS) {k40 : Int32 → Option Int32} {r : Int32} (C : Cok wX h X l0 ({ frames := 1, cells := 0, slots := 0, locals := 21 } : Room) D0 K0 cX2_lossBefore 3 RX2 wsX2_lossBefore) (hret : ∀ (pc : Nat) (lv' : List (Nat × Value)), decode cX2_lossBefore pc = .ok (.ireturn, 1) → G wX h X pc lv' [.int r] σ) (hk40 : ∀ (z1 : Int32), k40 z1 = some r → G wX h X 40 [(1, .int z1)] [] σ) : ∀ (F : Nat) (v1 : Int32) (v2 : Int32), lX2_lossBefore_5 σ k40 F v1 v2 = some r → G wX h X 5 [(0, .ref (h 3)), (1, .int v1), (2, .int v2)] [] σ := by
  intro F
  induction F with
  | zero => intro v1 v2 hf; exact absurd hf (by simp [lX2_lossBefore_5])
  | succ F ih =>
    intro v1 v2 hf
    rw [lX2_lossBefore_5.eq_2] at hf
    refine g_iload_n C 2 dX2_lossBefore_5 rfl rfl ?_
    refine g_aload_n C 0 dX2_lossBefore_6 rfl rfl ?_
    refine g_getI C in_X2_lossBefore_X2 (k := 1) lk_X2_lossBefore_1 rfl (Nat.le_of_ble_eq_true rfl) rfl (Nat.le_of_ble_eq_true rfl) rfl dX2_lossBefore_7 ?_
    refine g_icmp_gt (tgt := 40) hf C dX2_lossBefore_10 (by decide) (fun hf => ?_) (fun hf => ?_)
    · refine g_lv [1] rfl ?_
      exact hk40 v1 hf
    · refine g_iload_n C 1 dX2_lossBefore_13 rfl rfl ?_
      refine g_aload_n C 0 dX2_lossBefore_14 rfl rfl ?_
      refine g_getC (n := 16) C in_X2_lossBefore_X2 (k := 6) lk_X2_lossBefore_2 rfl (Nat.le_of_ble_eq_true rfl) rfl (Nat.le_of_ble_eq_true rfl) rfl dX2_lossBefore_15 ?_
      refine g_iload_n C 2 dX2_lossBefore_18 rfl rfl ?_
      refine g_iald hf C rfl (Nat.le_of_ble_eq_true rfl) dX2_lossBefore_19 (fun hf => ?_)
      refine g_aload_n C 0 dX2_lossBefore_20 rfl rfl ?_
      refine g_getC (n := 15) C in_X2_lossBefore_X2 (k := 5) lk_X2_lossBefore_3 rfl (Nat.le_of_ble_eq_true rfl) rfl (Nat.le_of_ble_eq_true rfl) rfl dX2_lossBefore_21 ?_
      refine g_bipush C dX2_lossBefore_24 bp_12 ?_
      refine g_aald hf C rfl (by decide) (Nat.le_of_ble_eq_true rfl) dX2_lossBefore_26 (fun hp1 hf => ?_)
      refine g_iload_n C 2 dX2_lossBefore_27 rfl rfl ?_
      refine g_iald hf C (sh_rest _ (pin_lt hp1)).1 (sh_rest _ (pin_lt hp1)).2 dX2_lossBefore_28 (fun hf => ?_)
      refine g_iadd C dX2_lossBefore_29 ?_
      refine g_mmin C lk_X2_lossBefore_4 lk_X2_lossBefore_5 lk_X2_lossBefore_6 lk_X2_lossBefore_7 (Nat.le_of_ble_eq_true rfl) (Nat.le_of_ble_eq_true rfl) dX2_lossBefore_30 ?_
      refine g_leti hf (fun x2 hf => ?_)
      refine g_istore_n C [1, 0, 2] dX2_lossBefore_33 rfl (Nat.le_of_ble_eq_true rfl) rfl ?_
      refine g_iinc C 2 [1, 2, 0] dX2_lossBefore_34 rfl ic_1 (Nat.le_of_ble_eq_true rfl) rfl ?_
      refine g_goto (tgt := 5) C dX2_lossBefore_37 (by decide) ?_
      exact ih x2 (v2 + (1 : Int32)) hf
set_option maxHeartbeats 4000000 in
set_option maxRecDepth 100000 in
theorem mX2_lossBefore (l0 : Launch) (D0 : va_G) (K0 : Nat → ClassId) (h : Nat → Nat) (σ : pS)  {r : Int32} (hf : fX2_lossBefore σ = some r) : Met l0 yX2_lossBefore wsX2_lossBefore ({ frames := 1, cells := 0, slots := 0, locals := 21 } : Room) (va_Pc [.ref (h 3)] (pIn wX D0 K0 h σ)) (va_Qi (fun r' u' => r' = r ∧ u' = σ) (pOut wX D0 K0 h) (pA wX h)) 0 0 (pA wX h) := by
  refine p_metI (lv := [(0, .ref (h 3))]) (by decide +kernel) rfl rfl (Nat.le_of_ble_eq_true rfl) rfl (fun X C hret => ?_)
  unfold fX2_lossBefore at hf
  refine g_ldc C lk_X2_lossBefore_0 dX2_lossBefore_0 ?_
  refine g_istore_n C [1, 0] dX2_lossBefore_2 rfl (Nat.le_of_ble_eq_true rfl) rfl ?_
  refine g_iconst C dX2_lossBefore_3 ic_0 ?_
  refine g_istore_n C [1, 2, 0] dX2_lossBefore_4 rfl (Nat.le_of_ble_eq_true rfl) rfl ?_
  refine lX2_lossBefore_5_ok σ C hret (fun y3 hf => ?_) FU (1000000 : Int32) (0 : Int32) hf
  refine g_iload_n C 0 dX2_lossBefore_40 rfl rfl ?_
  exact g_reti hf hret dX2_lossBefore_41
/-! X2_leastEnd -/
theorem ddX2_leastEnd : yX2_leastEnd.cls = RX2 ∧ yX2_leastEnd.cls ≠ "java/lang/invoke/MethodHandle" ∧ yX2_leastEnd.cls ≠ "java/lang/invoke/VarHandle" ∧ (parseMethodDescriptor yX2_leastEnd.desc).map (fun d => d.parameters.length) = some 0 := by decide +kernel
set_option maxHeartbeats 4000000 in
set_option maxRecDepth 100000 in
theorem lX2_leastEnd_6_ok {h : Nat → Nat} {X : Cx} {l0 : Launch} {D0 : va_G} {K0 : Nat → ClassId} {k42 : Int32 → pS → Option (Int32 × pS)} {r : Int32} {u : pS} (C : Cok wX h X l0 ({ frames := 2, cells := 0, slots := 0, locals := 46 } : Room) D0 K0 cX2_leastEnd 2 RX2 wsX2_leastEnd) (hret : ∀ (pc : Nat) (lv' : List (Nat × Value)), decode cX2_leastEnd pc = .ok (.ireturn, 1) → G wX h X pc lv' [.int r] u) (hk42 : ∀ (z1 : Int32) (σ : pS), k42 z1 σ = some (r, u) → G wX h X 42 [(1, .int z1)] [] σ) : ∀ (F : Nat) (v1 : Int32) (σ : pS), lX2_leastEnd_6 k42 F v1 σ = some (r, u) → G wX h X 6 [(0, .ref (h 3)), (1, .int v1)] [] σ := by
  intro F
  induction F with
  | zero => intro v1 σ hf; exact absurd hf (by simp [lX2_leastEnd_6])
  | succ F ih =>
    intro v1 σ hf
    rw [lX2_leastEnd_6.eq_2] at hf
    refine g_iload_n C 1 dX2_leastEnd_6 rfl rfl ?_
    refine g_bipush C dX2_leastEnd_7 bp_12 ?_
    refine g_icmp_ge (tgt := 42) hf C dX2_leastEnd_9 (by decide) (fun hf => ?_) (fun hf => ?_)
    · refine g_lv [1] rfl ?_
      exact hk42 v1 σ hf
    · refine g_aload_n C 0 dX2_leastEnd_12 rfl rfl ?_
      refine g_aload_n C 0 dX2_leastEnd_13 rfl rfl ?_
      obtain ⟨r5, hc4, hf⟩ := g_bind hf
      refine g_callVi C (mX2_lossBefore l0 D0 K0 h σ hc4) gX2_leastEnd_X2_lossBefore rfl rfl rfl ddX2_lossBefore ⟨(Nat.le_of_ble_eq_true rfl), (Nat.le_of_ble_eq_true rfl)⟩ rfl (Nat.le_of_ble_eq_true rfl) rfl rfl rfl (Nat.le_of_ble_eq_true rfl) dX2_leastEnd_14 ?_
      obtain ⟨r7, hc6, hf⟩ := g_bind hf
      refine g_callVi C (mX2_paidOf l0 D0 K0 h σ r5 hc6) gX2_leastEnd_X2_paidOf rfl rfl rfl ddX2_paidOf ⟨(Nat.le_of_ble_eq_true rfl), (Nat.le_of_ble_eq_true rfl)⟩ rfl (Nat.le_of_ble_eq_true rfl) rfl rfl rfl (Nat.le_of_ble_eq_true rfl) dX2_leastEnd_17 ?_
      refine g_aload_n C 0 dX2_leastEnd_20 rfl rfl ?_
      refine g_aload_n C 0 dX2_leastEnd_21 rfl rfl ?_
      obtain ⟨r9, hc8, hf⟩ := g_bind hf
      refine g_callVi C (mX2_leastLoss l0 D0 K0 h σ hc8) gX2_leastEnd_X2_leastLoss rfl rfl rfl ddX2_leastLoss ⟨(Nat.le_of_ble_eq_true rfl), (Nat.le_of_ble_eq_true rfl)⟩ rfl (Nat.le_of_ble_eq_true rfl) rfl rfl rfl (Nat.le_of_ble_eq_true rfl) dX2_leastEnd_22 ?_
      obtain ⟨r11, hc10, hf⟩ := g_bind hf
      refine g_callVi C (mX2_paidOf l0 D0 K0 h σ r9 hc10) gX2_leastEnd_X2_paidOf rfl rfl rfl ddX2_paidOf ⟨(Nat.le_of_ble_eq_true rfl), (Nat.le_of_ble_eq_true rfl)⟩ rfl (Nat.le_of_ble_eq_true rfl) rfl rfl rfl (Nat.le_of_ble_eq_true rfl) dX2_leastEnd_25 ?_
      refine g_icmp_ge (tgt := 42) hf C dX2_leastEnd_28 (by decide) (fun hf => ?_) (fun hf => ?_)
      · refine g_lv [1] rfl ?_
        exact hk42 v1 σ hf
      · refine g_aload_n C 0 dX2_leastEnd_31 rfl rfl ?_
        refine g_iload_n C 1 dX2_leastEnd_32 rfl rfl ?_
        obtain ⟨r13, σ14, hc12, hf⟩ := g_pbind hf
        refine g_callVv C (mX2_passHour l0 D0 K0 h σ v1 hc12) gX2_leastEnd_X2_passHour rfl rfl rfl ddX2_passHour ⟨(Nat.le_of_ble_eq_true rfl), (Nat.le_of_ble_eq_true rfl)⟩ rfl (Nat.le_of_ble_eq_true rfl) rfl rfl rfl (Nat.le_of_ble_eq_true rfl) dX2_leastEnd_33 ?_
        refine g_iinc C 1 [1, 0] dX2_leastEnd_36 rfl ic_1 (Nat.le_of_ble_eq_true rfl) rfl ?_
        refine g_goto (tgt := 6) C dX2_leastEnd_39 (by decide) ?_
        exact ih (v1 + (1 : Int32)) σ14 hf
set_option maxHeartbeats 4000000 in
set_option maxRecDepth 100000 in
theorem mX2_leastEnd (l0 : Launch) (D0 : va_G) (K0 : Nat → ClassId) (h : Nat → Nat) (σ : pS)  {r : Int32} {u : pS} (hf : fX2_leastEnd σ = some (r, u)) : Met l0 yX2_leastEnd wsX2_leastEnd ({ frames := 2, cells := 0, slots := 0, locals := 46 } : Room) (va_Pc [.ref (h 3)] (pIn wX D0 K0 h σ)) (va_Qi (fun r' u' => r' = r ∧ u' = u) (pOut wX D0 K0 h) (pA wX h)) 0 0 (pA wX h) := by
  refine p_metI (lv := [(0, .ref (h 3))]) (by decide +kernel) rfl rfl (Nat.le_of_ble_eq_true rfl) rfl (fun X C hret => ?_)
  unfold fX2_leastEnd at hf
  refine g_aload_n C 0 dX2_leastEnd_0 rfl rfl ?_
  obtain ⟨r2, σ3, hc1, hf⟩ := g_pbind hf
  refine g_callVv C (mX2_startBefore l0 D0 K0 h σ hc1) gX2_leastEnd_X2_startBefore rfl rfl rfl ddX2_startBefore ⟨(Nat.le_of_ble_eq_true rfl), (Nat.le_of_ble_eq_true rfl)⟩ rfl (Nat.le_of_ble_eq_true rfl) rfl rfl rfl (Nat.le_of_ble_eq_true rfl) dX2_leastEnd_1 ?_
  refine g_iconst C dX2_leastEnd_4 ic_0 ?_
  refine g_istore_n C [1, 0] dX2_leastEnd_5 rfl (Nat.le_of_ble_eq_true rfl) rfl ?_
  refine lX2_leastEnd_6_ok  C hret (fun y15 σ16 hf => ?_) FU (0 : Int32) σ3 hf
  refine g_iload_n C 0 dX2_leastEnd_42 rfl rfl ?_
  exact g_retiW hf hret dX2_leastEnd_43
/-! X2_weighCall -/
theorem in_X2_weighCall_X2 : ∀ q ∈ u_ws RX2 TX2 12, q ∈ wsX2_weighCall := by decide +kernel
theorem lk_X2_weighCall_0 : Cond.fieldLink RX2 47 "EmptyHouse$Rounds" "callPerson" "I" ∈ wsX2_weighCall := by decide +kernel
theorem lk_X2_weighCall_1 : Cond.fieldLink RX2 44 "EmptyHouse$Rounds" "callLoss" "I" ∈ wsX2_weighCall := by decide +kernel
theorem lk_X2_weighCall_2 : Cond.fieldLink RX2 50 "EmptyHouse$Rounds" "callHour" "I" ∈ wsX2_weighCall := by decide +kernel
theorem ddX2_weighCall : yX2_weighCall.cls = RX2 ∧ yX2_weighCall.cls ≠ "java/lang/invoke/MethodHandle" ∧ yX2_weighCall.cls ≠ "java/lang/invoke/VarHandle" ∧ (parseMethodDescriptor yX2_weighCall.desc).map (fun d => d.parameters.length) = some 3 := by decide +kernel
set_option maxHeartbeats 4000000 in
set_option maxRecDepth 100000 in
theorem mX2_weighCall (l0 : Launch) (D0 : va_G) (K0 : Nat → ClassId) (h : Nat → Nat) (σ : pS) (a1 : Int32) (a2 : Int32) (a3 : Int32) {r : Unit} {u : pS} (hf : fX2_weighCall σ a1 a2 a3 = some (r, u)) : Met l0 yX2_weighCall wsX2_weighCall ({ frames := 0, cells := 0, slots := 0, locals := 0 } : Room) (va_Pc [.ref (h 3), .int a1, .int a2, .int a3] (pIn wX D0 K0 h σ)) (va_Qv (fun u' => u' = u) (pOut wX D0 K0 h) (pA wX h)) 0 0 (pA wX h) := by
  refine p_metV (lv := [(0, .ref (h 3)), (1, .int a1), (2, .int a2), (3, .int a3)]) (by decide +kernel) rfl rfl (Nat.le_of_ble_eq_true rfl) rfl (fun X C hret => ?_)
  unfold fX2_weighCall at hf
  refine g_aload_n C 0 dX2_weighCall_0 rfl rfl ?_
  refine g_getI C in_X2_weighCall_X2 (k := 10) lk_X2_weighCall_0 rfl (Nat.le_of_ble_eq_true rfl) rfl (Nat.le_of_ble_eq_true rfl) rfl dX2_weighCall_1 ?_
  refine g_bipush C dX2_weighCall_4 bp_m9 ?_
  refine g_join (P := fun j => j = some (r, u) → G wX h X 33 [(0, .ref (h 3)), (1, .int a1), (2, .int a2), (3, .int a3)] [] σ) hf (fun hf => ?_) (fun j1 hj1 hf => ?_)
  · refine g_aload_n C 0 dX2_weighCall_33 rfl rfl ?_
    refine g_iload_n C 3 dX2_weighCall_34 rfl rfl ?_
    refine g_putI C in_X2_weighCall_X2 (k := 9) lk_X2_weighCall_1 rfl (Nat.le_of_ble_eq_true rfl) rfl (Nat.le_of_ble_eq_true rfl) tyX2 tyX2_ok nmX2 rfl rfl rfl rfl dX2_weighCall_35 ?_
    refine g_lets hf (fun σ2 hf => ?_)
    refine g_aload_n C 0 dX2_weighCall_38 rfl rfl ?_
    refine g_iload_n C 1 dX2_weighCall_39 rfl rfl ?_
    refine g_putI C in_X2_weighCall_X2 (k := 10) lk_X2_weighCall_0 rfl (Nat.le_of_ble_eq_true rfl) rfl (Nat.le_of_ble_eq_true rfl) tyX2 tyX2_ok nmX2 rfl rfl rfl rfl dX2_weighCall_40 ?_
    refine g_lets hf (fun σ3 hf => ?_)
    refine g_aload_n C 0 dX2_weighCall_43 rfl rfl ?_
    refine g_iload_n C 2 dX2_weighCall_44 rfl rfl ?_
    refine g_putI C in_X2_weighCall_X2 (k := 11) lk_X2_weighCall_2 rfl (Nat.le_of_ble_eq_true rfl) rfl (Nat.le_of_ble_eq_true rfl) tyX2 tyX2_ok nmX2 rfl rfl rfl rfl dX2_weighCall_45 ?_
    refine g_lets hf (fun σ4 hf => ?_)
    exact g_retvW hf hret dX2_weighCall_48
  · refine g_icmp_eq (tgt := 33) hf C dX2_weighCall_6 (by decide) (fun hf => ?_) (fun hf => ?_)
    · exact hj1 hf
    · refine g_iload_n C 3 dX2_weighCall_9 rfl rfl ?_
      refine g_aload_n C 0 dX2_weighCall_10 rfl rfl ?_
      refine g_getI C in_X2_weighCall_X2 (k := 9) lk_X2_weighCall_1 rfl (Nat.le_of_ble_eq_true rfl) rfl (Nat.le_of_ble_eq_true rfl) rfl dX2_weighCall_11 ?_
      refine g_icmp_lt (tgt := 33) hf C dX2_weighCall_14 (by decide) (fun hf => ?_) (fun hf => ?_)
      · exact hj1 hf
      · refine g_iload_n C 3 dX2_weighCall_17 rfl rfl ?_
        refine g_aload_n C 0 dX2_weighCall_18 rfl rfl ?_
        refine g_getI C in_X2_weighCall_X2 (k := 9) lk_X2_weighCall_1 rfl (Nat.le_of_ble_eq_true rfl) rfl (Nat.le_of_ble_eq_true rfl) rfl dX2_weighCall_19 ?_
        refine g_icmp_ne (tgt := 48) hf C dX2_weighCall_22 (by decide) (fun hf => ?_) (fun hf => ?_)
        · exact g_retvW hf hret dX2_weighCall_48
        · refine g_iload_n C 1 dX2_weighCall_25 rfl rfl ?_
          refine g_aload_n C 0 dX2_weighCall_26 rfl rfl ?_
          refine g_getI C in_X2_weighCall_X2 (k := 10) lk_X2_weighCall_0 rfl (Nat.le_of_ble_eq_true rfl) rfl (Nat.le_of_ble_eq_true rfl) rfl dX2_weighCall_27 ?_
          refine g_icmp_ge (tgt := 48) hf C dX2_weighCall_30 (by decide) (fun hf => ?_) (fun hf => ?_)
          · exact g_retvW hf hret dX2_weighCall_48
          · exact hj1 hf
/-! X2_lossWith -/
theorem in_X2_lossWith_X2 : ∀ q ∈ u_ws RX2 TX2 12, q ∈ wsX2_lossWith := by decide +kernel
theorem lk_X2_lossWith_0 : Cond.fieldLink RX2 26 "EmptyHouse$Rounds" "payable" "[I" ∈ wsX2_lossWith := by decide +kernel
theorem lk_X2_lossWith_1 : Cond.constant RX2 124 (1000000) ∈ wsX2_lossWith := by decide +kernel
theorem lk_X2_lossWith_2 : Cond.fieldLink RX2 15 "EmptyHouse$Rounds" "all" "I" ∈ wsX2_lossWith := by decide +kernel
theorem lk_X2_lossWith_3 : Cond.fieldLink RX2 34 "EmptyHouse$Rounds" "paidLoss" "[I" ∈ wsX2_lossWith := by decide +kernel
theorem lk_X2_lossWith_4 : Cond.methodLink RX2 92 Lib.Math.min.name ∈ wsX2_lossWith := by decide +kernel
theorem lk_X2_lossWith_5 : Cond.static Lib.Math.min.name ∈ wsX2_lossWith := by decide +kernel
theorem lk_X2_lossWith_6 : Cond.initialized "java/lang/Math" ∈ wsX2_lossWith := by decide +kernel
theorem lk_X2_lossWith_7 : Cond.code Lib.Math.min.name Lib.Math.min.code 2 (some .int) ∈ wsX2_lossWith := by decide +kernel
theorem ddX2_lossWith : yX2_lossWith.cls = RX2 ∧ yX2_lossWith.cls ≠ "java/lang/invoke/MethodHandle" ∧ yX2_lossWith.cls ≠ "java/lang/invoke/VarHandle" ∧ (parseMethodDescriptor yX2_lossWith.desc).map (fun d => d.parameters.length) = some 2 := by decide +kernel
set_option maxHeartbeats 4000000 in
set_option maxRecDepth 100000 in
theorem lX2_lossWith_31_ok {h : Nat → Nat} {X : Cx} {l0 : Launch} {D0 : va_G} {K0 : Nat → ClassId} (σ : pS) (p1 : Int32) (p3 : Int32) {k80 : Int32 → Option (Int32 × pS)} {r : Int32} {u : pS} (C : Cok wX h X l0 ({ frames := 2, cells := 0, slots := 0, locals := 48 } : Room) D0 K0 cX2_lossWith 6 RX2 wsX2_lossWith) (hret : ∀ (pc : Nat) (lv' : List (Nat × Value)), decode cX2_lossWith pc = .ok (.ireturn, 1) → G wX h X pc lv' [.int r] u) (hk80 : ∀ (z4 : Int32), k80 z4 = some (r, u) → G wX h X 80 [(0, .ref (h 3)), (1, .int p1), (3, .int p3), (4, .int z4)] [] σ) : ∀ (F : Nat) (v4 : Int32) (v5 : Int32), lX2_lossWith_31 σ p1 p3 k80 F v4 v5 = some (r, u) → G wX h X 31 [(0, .ref (h 3)), (1, .int p1), (3, .int p3), (4, .int v4), (5, .int v5)] [] σ := by
  intro F
  induction F with
  | zero => intro v4 v5 hf; exact absurd hf (by simp [lX2_lossWith_31])
  | succ F ih =>
    intro v4 v5 hf
    rw [lX2_lossWith_31.eq_2] at hf
    refine g_iload C 4 dX2_lossWith_31 rfl ?_
    refine g_aload_n C 0 dX2_lossWith_33 rfl rfl ?_
    refine g_getI C in_X2_lossWith_X2 (k := 1) lk_X2_lossWith_2 rfl (Nat.le_of_ble_eq_true rfl) rfl (Nat.le_of_ble_eq_true rfl) rfl dX2_lossWith_34 ?_
    refine g_icmp_gt (tgt := 80) hf C dX2_lossWith_37 (by decide) (fun hf => ?_) (fun hf => ?_)
    · refine g_lv [0, 1, 2, 3] rfl ?_
      exact hk80 v4 hf
    · refine g_aload_n C 0 dX2_lossWith_40 rfl rfl ?_
      refine g_getC (n := 16) C in_X2_lossWith_X2 (k := 6) lk_X2_lossWith_3 rfl (Nat.le_of_ble_eq_true rfl) rfl (Nat.le_of_ble_eq_true rfl) rfl dX2_lossWith_41 ?_
      refine g_iload C 4 dX2_lossWith_44 rfl ?_
      refine g_iald hf C rfl (Nat.le_of_ble_eq_true rfl) dX2_lossWith_46 (fun hf => ?_)
      refine g_ldc C lk_X2_lossWith_1 dX2_lossWith_47 ?_
      refine g_icmp_ge (tgt := 74) hf C dX2_lossWith_49 (by decide) (fun hf => ?_) (fun hf => ?_)
      · refine g_iinc C 4 [1, 2, 3, 4, 0] dX2_lossWith_74 rfl ic_1 (Nat.le_of_ble_eq_true rfl) rfl ?_
        refine g_goto (tgt := 31) C dX2_lossWith_77 (by decide) ?_
        exact ih v4 (v5 + (1 : Int32)) hf
      · refine g_iload C 3 dX2_lossWith_52 rfl ?_
        refine g_aload_n C 0 dX2_lossWith_54 rfl rfl ?_
        refine g_getC (n := 16) C in_X2_lossWith_X2 (k := 6) lk_X2_lossWith_3 rfl (Nat.le_of_ble_eq_true rfl) rfl (Nat.le_of_ble_eq_true rfl) rfl dX2_lossWith_55 ?_
        refine g_iload C 4 dX2_lossWith_58 rfl ?_
        refine g_iald hf C rfl (Nat.le_of_ble_eq_true rfl) dX2_lossWith_60 (fun hf => ?_)
        refine g_aload_n C 0 dX2_lossWith_61 rfl rfl ?_
        refine g_iload_n C 1 dX2_lossWith_62 rfl rfl ?_
        refine g_iload C 4 dX2_lossWith_63 rfl ?_
        obtain ⟨r4, hc3, hf⟩ := g_bind hf
        refine g_callVi C (mX2_lossFrom l0 D0 K0 h σ p1 v5 hc3) gX2_lossWith_X2_lossFrom rfl rfl rfl ddX2_lossFrom ⟨(Nat.le_of_ble_eq_true rfl), (Nat.le_of_ble_eq_true rfl)⟩ rfl (Nat.le_of_ble_eq_true rfl) rfl rfl rfl (Nat.le_of_ble_eq_true rfl) dX2_lossWith_65 ?_
        refine g_iadd C dX2_lossWith_68 ?_
        refine g_mmin C lk_X2_lossWith_4 lk_X2_lossWith_5 lk_X2_lossWith_6 lk_X2_lossWith_7 (Nat.le_of_ble_eq_true rfl) (Nat.le_of_ble_eq_true rfl) dX2_lossWith_69 ?_
        refine g_leti hf (fun x5 hf => ?_)
        refine g_istore C [1, 2, 3, 0, 4] dX2_lossWith_72 (Nat.le_of_ble_eq_true rfl) rfl ?_
        refine g_iinc C 4 [1, 2, 3, 4, 0] dX2_lossWith_74 rfl ic_1 (Nat.le_of_ble_eq_true rfl) rfl ?_
        refine g_goto (tgt := 31) C dX2_lossWith_77 (by decide) ?_
        exact ih x5 (v5 + (1 : Int32)) hf
set_option maxHeartbeats 4000000 in
set_option maxRecDepth 100000 in
theorem mX2_lossWith (l0 : Launch) (D0 : va_G) (K0 : Nat → ClassId) (h : Nat → Nat) (σ : pS) (a1 : Int32) (a2 : Int32) {r : Int32} {u : pS} (hf : fX2_lossWith σ a1 a2 = some (r, u)) : Met l0 yX2_lossWith wsX2_lossWith ({ frames := 2, cells := 0, slots := 0, locals := 48 } : Room) (va_Pc [.ref (h 3), .int a1, .int a2] (pIn wX D0 K0 h σ)) (va_Qi (fun r' u' => r' = r ∧ u' = u) (pOut wX D0 K0 h) (pA wX h)) 0 0 (pA wX h) := by
  refine p_metI (lv := [(0, .ref (h 3)), (1, .int a1), (2, .int a2)]) (by decide +kernel) rfl rfl (Nat.le_of_ble_eq_true rfl) rfl (fun X C hret => ?_)
  unfold fX2_lossWith at hf
  refine g_aload_n C 0 dX2_lossWith_0 rfl rfl ?_
  refine g_getC (n := 14) C in_X2_lossWith_X2 (k := 4) lk_X2_lossWith_0 rfl (Nat.le_of_ble_eq_true rfl) rfl (Nat.le_of_ble_eq_true rfl) rfl dX2_lossWith_1 ?_
  refine g_iload_n C 1 dX2_lossWith_4 rfl rfl ?_
  refine g_iald hf C rfl (Nat.le_of_ble_eq_true rfl) dX2_lossWith_5 (fun hf => ?_)
  refine g_leti hf (fun x1 hf => ?_)
  refine g_istore_n C [1, 2, 3, 0] dX2_lossWith_6 rfl (Nat.le_of_ble_eq_true rfl) rfl ?_
  refine g_iload_n C 2 dX2_lossWith_7 rfl rfl ?_
  refine g_iload_n C 3 dX2_lossWith_8 rfl rfl ?_
  refine g_icmp_ne (tgt := 17) hf C dX2_lossWith_9 (by decide) (fun hf => ?_) (fun hf => ?_)
  · refine g_aload_n C 0 dX2_lossWith_17 rfl rfl ?_
    refine g_getC (n := 14) C in_X2_lossWith_X2 (k := 4) lk_X2_lossWith_0 rfl (Nat.le_of_ble_eq_true rfl) rfl (Nat.le_of_ble_eq_true rfl) rfl dX2_lossWith_18 ?_
    refine g_iload_n C 1 dX2_lossWith_21 rfl rfl ?_
    refine g_iload_n C 2 dX2_lossWith_22 rfl rfl ?_
    refine g_iast hf C rfl (Nat.le_of_ble_eq_true rfl) dX2_lossWith_23 (fun hf => ?_)
    refine g_lets hf (fun σ2 hf => ?_)
    refine g_ldc C lk_X2_lossWith_1 dX2_lossWith_24 ?_
    refine g_istore C [1, 2, 4, 0] dX2_lossWith_26 (Nat.le_of_ble_eq_true rfl) rfl ?_
    refine g_iconst C dX2_lossWith_28 ic_0 ?_
    refine g_istore C [1, 2, 3, 4, 0] dX2_lossWith_29 (Nat.le_of_ble_eq_true rfl) rfl ?_
    refine lX2_lossWith_31_ok σ2 a1 x1 C hret (fun y6 hf => ?_) FU (1000000 : Int32) (0 : Int32) hf
    refine g_aload_n C 0 dX2_lossWith_80 rfl rfl ?_
    refine g_getC (n := 14) C in_X2_lossWith_X2 (k := 4) lk_X2_lossWith_0 rfl (Nat.le_of_ble_eq_true rfl) rfl (Nat.le_of_ble_eq_true rfl) rfl dX2_lossWith_81 ?_
    refine g_iload_n C 1 dX2_lossWith_84 rfl rfl ?_
    refine g_iload_n C 2 dX2_lossWith_85 rfl rfl ?_
    refine g_iast hf C rfl (Nat.le_of_ble_eq_true rfl) dX2_lossWith_86 (fun hf => ?_)
    refine g_lets hf (fun σ7 hf => ?_)
    refine g_iload C 3 dX2_lossWith_87 rfl ?_
    exact g_retiW hf hret dX2_lossWith_89
  · refine g_aload_n C 0 dX2_lossWith_12 rfl rfl ?_
    obtain ⟨r9, hc8, hf⟩ := g_bind hf
    refine g_callVi C (mX2_leastLoss l0 D0 K0 h σ hc8) gX2_lossWith_X2_leastLoss rfl rfl rfl ddX2_leastLoss ⟨(Nat.le_of_ble_eq_true rfl), (Nat.le_of_ble_eq_true rfl)⟩ rfl (Nat.le_of_ble_eq_true rfl) rfl rfl rfl (Nat.le_of_ble_eq_true rfl) dX2_lossWith_13 ?_
    exact g_retiW hf hret dX2_lossWith_16
/-! X2_findCall -/
theorem in_X2_findCall_X2 : ∀ q ∈ u_ws RX2 TX2 12, q ∈ wsX2_findCall := by decide +kernel
theorem in_X2_findCall_X3 : ∀ q ∈ u_ws RX3 TX3 11, q ∈ wsX2_findCall := by decide +kernel
theorem lk_X2_findCall_0 : Cond.fieldLink RX2 47 "EmptyHouse$Rounds" "callPerson" "I" ∈ wsX2_findCall := by decide +kernel
theorem lk_X2_findCall_1 : Cond.fieldLink RX2 141 "EmptyHouse$Village" "people" "I" ∈ wsX2_findCall := by decide +kernel
theorem lk_X2_findCall_2 : Cond.fieldLink RX2 147 "EmptyHouse$Village" "cards" "[I" ∈ wsX2_findCall := by decide +kernel
theorem ddX2_findCall : yX2_findCall.cls = RX2 ∧ yX2_findCall.cls ≠ "java/lang/invoke/MethodHandle" ∧ yX2_findCall.cls ≠ "java/lang/invoke/VarHandle" ∧ (parseMethodDescriptor yX2_findCall.desc).map (fun d => d.parameters.length) = some 1 := by decide +kernel
set_option maxHeartbeats 4000000 in
set_option maxRecDepth 100000 in
theorem lX2_findCall_27_ok {h : Nat → Nat} {X : Cx} {l0 : Launch} {D0 : va_G} {K0 : Nat → ClassId} (p1 : Nat) (p2 : Int32) (p3 : Int32) {k86 : pS → Option (Int32 × pS)} {r : Int32} {u : pS} (C : Cok wX h X l0 ({ frames := 5, cells := 0, slots := 0, locals := 114 } : Room) D0 K0 cX2_findCall 6 RX2 wsX2_findCall) (hret : ∀ (pc : Nat) (lv' : List (Nat × Value)), vp_nar .boolean r = r → decode cX2_findCall pc = .ok (.ireturn, 1) → G wX h X pc lv' [.int r] u) (hk86 : ∀  (σ : pS), k86 σ = some (r, u) → G wX h X 86 [(0, .ref (h 3)), (1, .ref (h p1)), (2, .int p2)] [] σ) : ∀ (F : Nat) (v4 : Int32) (σ : pS), lX2_findCall_27 p1 p2 p3 k86 F v4 σ = some (r, u) → G wX h X 27 [(0, .ref (h 3)), (1, .ref (h p1)), (2, .int p2), (3, .int p3), (4, .int v4)] [] σ := by
  intro F
  induction F with
  | zero => intro v4 σ hf; exact absurd hf (by simp [lX2_findCall_27])
  | succ F ih =>
    intro v4 σ hf
    rw [lX2_findCall_27.eq_2] at hf
    refine g_iload C 4 dX2_findCall_27 rfl ?_
    refine g_aload_n C 1 dX2_findCall_29 rfl rfl ?_
    obtain ⟨hg8, hf⟩ := g_guard hf
    refine g_getI C in_X2_findCall_X3 (k := 0) lk_X2_findCall_1 rfl (Nat.le_of_ble_eq_true rfl) (shV hg8) (ltV hg8) rfl dX2_findCall_30 ?_
    refine g_icmp_ge (tgt := 86) hf C dX2_findCall_33 (by decide) (fun hf => ?_) (fun hf => ?_)
    · refine g_lv [0, 1, 2] rfl ?_
      exact hk86 σ hf
    · refine g_iload_n C 3 dX2_findCall_36 rfl rfl ?_
      refine g_iload C 4 dX2_findCall_37 rfl ?_
      refine g_ishr C dX2_findCall_39 ?_
      refine g_iconst C dX2_findCall_40 ic_1 ?_
      refine g_iand C dX2_findCall_41 ?_
      refine g_if_ne (tgt := 80) hf C dX2_findCall_42 (by decide) (fun hf => ?_) (fun hf => ?_)
      · refine g_iinc C 4 [1, 2, 3, 4, 0] dX2_findCall_80 rfl ic_1 (Nat.le_of_ble_eq_true rfl) rfl ?_
        refine g_goto (tgt := 27) C dX2_findCall_83 (by decide) ?_
        exact ih (v4 + (1 : Int32)) σ hf
      · refine g_aload_n C 0 dX2_findCall_45 rfl rfl ?_
        refine g_iload_n C 2 dX2_findCall_46 rfl rfl ?_
        refine g_aload_n C 1 dX2_findCall_47 rfl rfl ?_
        refine g_iload_n C 2 dX2_findCall_48 rfl rfl ?_
        refine g_iload_n C 3 dX2_findCall_49 rfl rfl ?_
        refine g_iconst C dX2_findCall_50 ic_1 ?_
        refine g_iload C 4 dX2_findCall_51 rfl ?_
        refine g_ishl C dX2_findCall_53 ?_
        refine g_ior C dX2_findCall_54 ?_
        obtain ⟨r10, hc9, hf⟩ := g_bind hf
        refine g_callVi C (mX3_payableDebts l0 D0 K0 h σ p1 p2 (p3 ||| ((1 : Int32) <<< (v4 &&& 31))) hc9) gX2_findCall_X3_payableDebts rfl rfl rfl ddX3_payableDebts ⟨(Nat.le_of_ble_eq_true rfl), (Nat.le_of_ble_eq_true rfl)⟩ (shV hg8) (ltV hg8) rfl rfl rfl (Nat.le_of_ble_eq_true rfl) dX2_findCall_55 ?_
        obtain ⟨r12, σ13, hc11, hf⟩ := g_pbind hf
        refine g_callVi C (mX2_lossWith l0 D0 K0 h σ p2 r10 hc11) gX2_findCall_X2_lossWith rfl rfl rfl ddX2_lossWith ⟨(Nat.le_of_ble_eq_true rfl), (Nat.le_of_ble_eq_true rfl)⟩ rfl (Nat.le_of_ble_eq_true rfl) rfl rfl rfl (Nat.le_of_ble_eq_true rfl) dX2_findCall_58 ?_
        refine g_aload_n C 1 dX2_findCall_61 rfl rfl ?_
        refine g_getC (n := p1 + 4) C in_X2_findCall_X3 (k := 6) lk_X2_findCall_2 rfl (Nat.le_of_ble_eq_true rfl) (shV hg8) (ltV hg8) rfl dX2_findCall_62 ?_
        refine g_iload C 4 dX2_findCall_65 rfl ?_
        refine g_iald hf C (shV4 hg8).1 (shV4 hg8).2 dX2_findCall_67 (fun hf => ?_)
        refine g_iadd C dX2_findCall_68 ?_
        refine g_leti hf (fun x14 hf => ?_)
        refine g_istore C [1, 2, 3, 4, 5, 0] dX2_findCall_69 (Nat.le_of_ble_eq_true rfl) rfl ?_
        refine g_aload_n C 0 dX2_findCall_71 rfl rfl ?_
        refine g_iload C 4 dX2_findCall_72 rfl ?_
        refine g_iload_n C 2 dX2_findCall_74 rfl rfl ?_
        refine g_iload C 5 dX2_findCall_75 rfl ?_
        obtain ⟨r16, σ17, hc15, hf⟩ := g_pbind hf
        refine g_callVv C (mX2_weighCall l0 D0 K0 h σ13 v4 p2 x14 hc15) gX2_findCall_X2_weighCall rfl rfl rfl ddX2_weighCall ⟨(Nat.le_of_ble_eq_true rfl), (Nat.le_of_ble_eq_true rfl)⟩ rfl (Nat.le_of_ble_eq_true rfl) rfl rfl rfl (Nat.le_of_ble_eq_true rfl) dX2_findCall_77 ?_
        refine g_iinc C 4 [1, 2, 3, 4, 0] dX2_findCall_80 rfl ic_1 (Nat.le_of_ble_eq_true rfl) rfl ?_
        refine g_goto (tgt := 27) C dX2_findCall_83 (by decide) ?_
        exact ih (v4 + (1 : Int32)) σ17 hf
set_option maxHeartbeats 4000000 in
set_option maxRecDepth 100000 in
theorem lX2_findCall_12_ok {h : Nat → Nat} {X : Cx} {l0 : Launch} {D0 : va_G} {K0 : Nat → ClassId} (p1 : Nat) {k97 : pS → Option (Int32 × pS)} {r : Int32} {u : pS} (C : Cok wX h X l0 ({ frames := 5, cells := 0, slots := 0, locals := 114 } : Room) D0 K0 cX2_findCall 6 RX2 wsX2_findCall) (hret : ∀ (pc : Nat) (lv' : List (Nat × Value)), vp_nar .boolean r = r → decode cX2_findCall pc = .ok (.ireturn, 1) → G wX h X pc lv' [.int r] u) (hk97 : ∀  (σ : pS), k97 σ = some (r, u) → G wX h X 97 [(0, .ref (h 3))] [] σ) : ∀ (F : Nat) (v2 : Int32) (σ : pS), lX2_findCall_12 p1 k97 F v2 σ = some (r, u) → G wX h X 12 [(0, .ref (h 3)), (1, .ref (h p1)), (2, .int v2)] [] σ := by
  intro F
  induction F with
  | zero => intro v2 σ hf; exact absurd hf (by simp [lX2_findCall_12])
  | succ F ih =>
    intro v2 σ hf
    rw [lX2_findCall_12.eq_2] at hf
    refine g_iload_n C 2 dX2_findCall_12 rfl rfl ?_
    refine g_bipush C dX2_findCall_13 bp_12 ?_
    refine g_icmp_ge (tgt := 97) hf C dX2_findCall_15 (by decide) (fun hf => ?_) (fun hf => ?_)
    · refine g_lv [0] rfl ?_
      exact hk97 σ hf
    · refine g_aload_n C 1 dX2_findCall_18 rfl rfl ?_
      refine g_iload_n C 2 dX2_findCall_19 rfl rfl ?_
      obtain ⟨hg5, hf⟩ := g_guard hf
      obtain ⟨r7, hc6, hf⟩ := g_bind hf
      refine g_callVi C (mX3_peopleOut l0 D0 K0 h σ p1 v2 hc6) gX2_findCall_X3_peopleOut rfl rfl rfl ddX3_peopleOut ⟨(Nat.le_of_ble_eq_true rfl), (Nat.le_of_ble_eq_true rfl)⟩ (shV hg5) (ltV hg5) rfl rfl rfl (Nat.le_of_ble_eq_true rfl) dX2_findCall_20 ?_
      refine g_istore_n C [1, 2, 3, 0] dX2_findCall_23 rfl (Nat.le_of_ble_eq_true rfl) rfl ?_
      refine g_iconst C dX2_findCall_24 ic_0 ?_
      refine g_istore C [1, 2, 3, 4, 0] dX2_findCall_25 (Nat.le_of_ble_eq_true rfl) rfl ?_
      refine lX2_findCall_27_ok p1 v2 r7 C hret (fun σ18 hf => ?_) FU (0 : Int32) σ hf
      refine g_aload_n C 0 dX2_findCall_86 rfl rfl ?_
      refine g_iload_n C 2 dX2_findCall_87 rfl rfl ?_
      obtain ⟨r20, σ21, hc19, hf⟩ := g_pbind hf
      refine g_callVv C (mX2_passHour l0 D0 K0 h σ18 v2 hc19) gX2_findCall_X2_passHour rfl rfl rfl ddX2_passHour ⟨(Nat.le_of_ble_eq_true rfl), (Nat.le_of_ble_eq_true rfl)⟩ rfl (Nat.le_of_ble_eq_true rfl) rfl rfl rfl (Nat.le_of_ble_eq_true rfl) dX2_findCall_88 ?_
      refine g_iinc C 2 [1, 2, 0] dX2_findCall_91 rfl ic_1 (Nat.le_of_ble_eq_true rfl) rfl ?_
      refine g_goto (tgt := 12) C dX2_findCall_94 (by decide) ?_
      exact ih (v2 + (1 : Int32)) σ21 hf
set_option maxHeartbeats 4000000 in
set_option maxRecDepth 100000 in
theorem mX2_findCall (l0 : Launch) (D0 : va_G) (K0 : Nat → ClassId) (h : Nat → Nat) (σ : pS) (a1 : Nat) {r : Int32} {u : pS} (hf : fX2_findCall σ a1 = some (r, u)) : Met l0 yX2_findCall wsX2_findCall ({ frames := 5, cells := 0, slots := 0, locals := 114 } : Room) (va_Pc [.ref (h 3), .ref (h a1)] (pIn wX D0 K0 h σ)) (va_Qi (fun r' u' => r' = r ∧ u' = u) (pOut wX D0 K0 h) (pA wX h)) 0 0 (pA wX h) := by
  refine p_metZ (lv := [(0, .ref (h 3)), (1, .ref (h a1))]) (by decide +kernel) rfl rfl (Nat.le_of_ble_eq_true rfl) rfl (fun X C hret => ?_)
  unfold fX2_findCall at hf
  refine g_aload_n C 0 dX2_findCall_0 rfl rfl ?_
  refine g_bipush C dX2_findCall_1 bp_m9 ?_
  refine g_putI C in_X2_findCall_X2 (k := 10) lk_X2_findCall_0 rfl (Nat.le_of_ble_eq_true rfl) rfl (Nat.le_of_ble_eq_true rfl) tyX2 tyX2_ok nmX2 rfl rfl rfl rfl dX2_findCall_3 ?_
  refine g_lets hf (fun σ1 hf => ?_)
  refine g_aload_n C 0 dX2_findCall_6 rfl rfl ?_
  obtain ⟨r3, σ4, hc2, hf⟩ := g_pbind hf
  refine g_callVv C (mX2_startBefore l0 D0 K0 h σ1 hc2) gX2_findCall_X2_startBefore rfl rfl rfl ddX2_startBefore ⟨(Nat.le_of_ble_eq_true rfl), (Nat.le_of_ble_eq_true rfl)⟩ rfl (Nat.le_of_ble_eq_true rfl) rfl rfl rfl (Nat.le_of_ble_eq_true rfl) dX2_findCall_7 ?_
  refine g_iconst C dX2_findCall_10 ic_0 ?_
  refine g_istore_n C [1, 2, 0] dX2_findCall_11 rfl (Nat.le_of_ble_eq_true rfl) rfl ?_
  refine lX2_findCall_12_ok a1 C hret (fun σ22 hf => ?_) FU (0 : Int32) σ4 hf
  refine g_aload_n C 0 dX2_findCall_97 rfl rfl ?_
  refine g_getI C in_X2_findCall_X2 (k := 10) lk_X2_findCall_0 rfl (Nat.le_of_ble_eq_true rfl) rfl (Nat.le_of_ble_eq_true rfl) rfl dX2_findCall_98 ?_
  refine g_bipush C dX2_findCall_101 bp_m9 ?_
  refine g_icmp_eq (tgt := 110) hf C dX2_findCall_103 (by decide) (fun hf => ?_) (fun hf => ?_)
  · refine g_iconst C dX2_findCall_110 ic_0 ?_
    exact g_retzW hf (by decide) hret dX2_findCall_111
  · refine g_iconst C dX2_findCall_106 ic_1 ?_
    refine g_goto (tgt := 111) C dX2_findCall_107 (by decide) ?_
    exact g_retzW hf (by decide) hret dX2_findCall_111
