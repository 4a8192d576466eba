/-! J7_fill_53178 -/
theorem ddJ7_fill_53178 : yJ7_fill_53178.cls ≠ "java/lang/invoke/MethodHandle" ∧ yJ7_fill_53178.cls ≠ "java/lang/invoke/VarHandle" ∧ (parseMethodDescriptor yJ7_fill_53178.desc).map (fun d => d.parameters.length) = some 2 := by decide +kernel
set_option maxHeartbeats 4000000 in
set_option maxRecDepth 100000 in
theorem lJ7_fill_53178_5_ok {h : Nat → Nat} {X : Cx} {l0 : Launch} {D0 : va_G} {K0 : Nat → ClassId} (p0 : Nat) (p1 : Int32) (p3 : Int32) {k20 : pS → Option (Unit × pS)} {r : Unit} {u : pS} (C : Cok wX h X l0 ({ frames := 0, cells := 0, slots := 0, locals := 0 } : Room) D0 K0 cJ7_fill_53178 4 RJ7 wsJ7_fill_53178) (hret : ∀ (pc : Nat) (lv' : List (Nat × Value)), decode cJ7_fill_53178 pc = .ok (.return_, 1) → G wX h X pc lv' [] u) (hk20 : ∀  (σ : pS), k20 σ = some (r, u) → G wX h X 20 [] [] σ) : ∀ (F : Nat) (v2 : Int32) (σ : pS), lJ7_fill_53178_5 p0 p1 p3 k20 F v2 σ = some (r, u) → G wX h X 5 [(0, .ref (h p0)), (1, .int p1), (2, .int v2), (3, .int p3)] [] σ := by
  intro F
  induction F with
  | zero => intro v2 σ hf; exact absurd hf (by simp [lJ7_fill_53178_5])
  | succ F ih =>
    intro v2 σ hf
    rw [lJ7_fill_53178_5.eq_2] at hf
    refine g_iload_n C 2 dJ7_fill_53178_5 rfl rfl ?_
    refine g_iload_n C 3 dJ7_fill_53178_6 rfl rfl ?_
    refine g_icmp_ge (tgt := 20) hf C dJ7_fill_53178_7 (by decide) (fun hf => ?_) (fun hf => ?_)
    · refine g_lv [] rfl ?_
      exact hk20 σ hf
    · refine g_aload_n C 0 dJ7_fill_53178_10 rfl rfl ?_
      refine g_iload_n C 2 dJ7_fill_53178_11 rfl rfl ?_
      refine g_iload_n C 1 dJ7_fill_53178_12 rfl rfl ?_
      obtain ⟨hg6, hf⟩ := g_guard hf
      obtain ⟨b7, he8, hl9⟩ := isA_spec hg6
      refine g_iast hf C he8 hl9 dJ7_fill_53178_13 (fun hf => ?_)
      refine g_lets hf (fun σ10 hf => ?_)
      refine g_iinc C 2 [1, 2, 0, 3] dJ7_fill_53178_14 rfl ic_1 (Nat.le_of_ble_eq_true rfl) rfl ?_
      refine g_goto (tgt := 5) C dJ7_fill_53178_17 (by decide) ?_
      exact ih (v2 + (1 : Int32)) σ10 hf
set_option maxHeartbeats 4000000 in
set_option maxRecDepth 100000 in
theorem mJ7_fill_53178 (l0 : Launch) (D0 : va_G) (K0 : Nat → ClassId) (h : Nat → Nat) (σ : pS) (a1 : Nat) (a2 : Int32) {r : Unit} {u : pS} (hf : fJ7_fill_53178 σ a1 a2 = some (r, u)) : Met l0 yJ7_fill_53178 wsJ7_fill_53178 ({ frames := 0, cells := 0, slots := 0, locals := 0 } : Room) (va_Pc [.ref (h a1), .int a2] (pIn wX D0 K0 h σ)) (va_Qv (fun u' => u' = u) (pOut wX D0 K0 h) (pA wX h)) 0 0 (pA wX h) := by
  refine p_metV (lv := [(0, .ref (h a1)), (1, .int a2)]) (by decide +kernel) rfl rfl (Nat.le_of_ble_eq_true rfl) rfl (fun X C hret => ?_)
  unfold fJ7_fill_53178 at hf
  refine g_iconst C dJ7_fill_53178_0 ic_0 ?_
  refine g_istore_n C [1, 2, 0] dJ7_fill_53178_1 rfl (Nat.le_of_ble_eq_true rfl) rfl ?_
  refine g_aload_n C 0 dJ7_fill_53178_2 rfl rfl ?_
  obtain ⟨hg1, hf⟩ := g_guard hf
  obtain ⟨b2, he3, hl4⟩ := isA_spec hg1
  refine g_alen C he3 hl4 rfl dJ7_fill_53178_3 ?_
  refine g_leti hf (fun x5 hf => ?_)
  refine g_istore_n C [1, 2, 3, 0] dJ7_fill_53178_4 rfl (Nat.le_of_ble_eq_true rfl) rfl ?_
  refine lJ7_fill_53178_5_ok a1 a2 x5 C hret (fun σ11 hf => ?_) FU (0 : Int32) σ hf
  exact g_retvW hf hret dJ7_fill_53178_20
/-! X0_forget -/
theorem in_X0_forget_X0 : ∀ q ∈ u_ws RX0 TX0 3, q ∈ wsX0_forget := by decide +kernel
theorem lk_X0_forget_0 : Cond.fieldLink RX0 9 "EmptyHouse$Books" "paidIn" "[I" ∈ wsX0_forget := by decide +kernel
theorem lk_X0_forget_1 : Cond.fieldLink RX0 20 "EmptyHouse$Books" "isKept" "[Z" ∈ wsX0_forget := by decide +kernel
theorem ddX0_forget : yX0_forget.cls = RX0 ∧ yX0_forget.cls ≠ "java/lang/invoke/MethodHandle" ∧ yX0_forget.cls ≠ "java/lang/invoke/VarHandle" ∧ (parseMethodDescriptor yX0_forget.desc).map (fun d => d.parameters.length) = some 0 := by decide +kernel
set_option maxHeartbeats 4000000 in
set_option maxRecDepth 100000 in
theorem lX0_forget_11_ok {h : Nat → Nat} {X : Cx} {l0 : Launch} {D0 : va_G} {K0 : Nat → ClassId} {k29 : pS → Option (Unit × pS)} {r : Unit} {u : pS} (C : Cok wX h X l0 ({ frames := 1, cells := 0, slots := 0, locals := 23 } : Room) D0 K0 cX0_forget 2 RX0 wsX0_forget) (hret : ∀ (pc : Nat) (lv' : List (Nat × Value)), decode cX0_forget pc = .ok (.return_, 1) → G wX h X pc lv' [] u) (hk29 : ∀  (σ : pS), k29 σ = some (r, u) → G wX h X 29 [] [] σ) : ∀ (F : Nat) (v1 : Int32) (σ : pS), lX0_forget_11 k29 F v1 σ = some (r, u) → G wX h X 11 [(0, .ref (h 2)), (1, .int v1)] [] σ := by
  intro F
  induction F with
  | zero => intro v1 σ hf; exact absurd hf (by simp [lX0_forget_11])
  | succ F ih =>
    intro v1 σ hf
    rw [lX0_forget_11.eq_2] at hf
    refine g_iload_n C 1 dX0_forget_11 rfl rfl ?_
    refine g_iconst C dX0_forget_12 ic_3 ?_
    refine g_icmp_ge (tgt := 29) hf C dX0_forget_13 (by decide) (fun hf => ?_) (fun hf => ?_)
    · refine g_lv [] rfl ?_
      exact hk29 σ hf
    · refine g_aload_n C 0 dX0_forget_16 rfl rfl ?_
      refine g_getC (n := 11) C in_X0_forget_X0 (k := 2) lk_X0_forget_1 rfl (Nat.le_of_ble_eq_true rfl) rfl (Nat.le_of_ble_eq_true rfl) rfl dX0_forget_17 ?_
      refine g_iload_n C 1 dX0_forget_20 rfl rfl ?_
      refine g_iconst C dX0_forget_21 ic_0 ?_
      refine g_zast hf C rfl (Nat.le_of_ble_eq_true rfl) dX0_forget_22 (fun hf => ?_)
      refine g_lets hf (fun σ4 hf => ?_)
      refine g_iinc C 1 [1, 0] dX0_forget_23 rfl ic_1 (Nat.le_of_ble_eq_true rfl) rfl ?_
      refine g_goto (tgt := 11) C dX0_forget_26 (by decide) ?_
      exact ih (v1 + (1 : Int32)) σ4 hf
set_option maxHeartbeats 4000000 in
set_option maxRecDepth 100000 in
theorem mX0_forget (l0 : Launch) (D0 : va_G) (K0 : Nat → ClassId) (h : Nat → Nat) (σ : pS)  {r : Unit} {u : pS} (hf : fX0_forget σ = some (r, u)) : Met l0 yX0_forget wsX0_forget ({ frames := 1, cells := 0, slots := 0, locals := 23 } : Room) (va_Pc [.ref (h 2)] (pIn wX D0 K0 h σ)) (va_Qv (fun u' => u' = u) (pOut wX D0 K0 h) (pA wX h)) 0 0 (pA wX h) := by
  refine p_metV (lv := [(0, .ref (h 2))]) (by decide +kernel) rfl rfl (Nat.le_of_ble_eq_true rfl) rfl (fun X C hret => ?_)
  unfold fX0_forget at hf
  refine g_aload_n C 0 dX0_forget_0 rfl rfl ?_
  refine g_getC (n := 9) C in_X0_forget_X0 (k := 0) lk_X0_forget_0 rfl (Nat.le_of_ble_eq_true rfl) rfl (Nat.le_of_ble_eq_true rfl) rfl dX0_forget_1 ?_
  refine g_bipush C dX0_forget_4 bp_m9 ?_
  obtain ⟨r2, σ3, hc1, hf⟩ := g_pbind hf
  refine g_callSv C (mJ7_fill_53178 l0 D0 K0 h σ 9 (-9 : Int32) hc1) gX0_forget_J7_fill_53178 rfl rfl rfl ddJ7_fill_53178 ⟨(Nat.le_of_ble_eq_true rfl), (Nat.le_of_ble_eq_true rfl)⟩ rfl rfl (Nat.le_of_ble_eq_true rfl) dX0_forget_6 ?_
  refine g_iconst C dX0_forget_9 ic_0 ?_
  refine g_istore_n C [1, 0] dX0_forget_10 rfl (Nat.le_of_ble_eq_true rfl) rfl ?_
  refine lX0_forget_11_ok  C hret (fun σ5 hf => ?_) FU (0 : Int32) σ3 hf
  exact g_retvW hf hret dX0_forget_29
/-! X0_isPaid -/
theorem in_X0_isPaid_X0 : ∀ q ∈ u_ws RX0 TX0 3, q ∈ wsX0_isPaid := by decide +kernel
theorem lk_X0_isPaid_0 : Cond.fieldLink RX0 9 "EmptyHouse$Books" "paidIn" "[I" ∈ wsX0_isPaid := by decide +kernel
theorem ddX0_isPaid : yX0_isPaid.cls = RX0 ∧ yX0_isPaid.cls ≠ "java/lang/invoke/MethodHandle" ∧ yX0_isPaid.cls ≠ "java/lang/invoke/VarHandle" ∧ (parseMethodDescriptor yX0_isPaid.desc).map (fun d => d.parameters.length) = some 1 := by decide +kernel
set_option maxHeartbeats 4000000 in
set_option maxRecDepth 100000 in
theorem mX0_isPaid (l0 : Launch) (D0 : va_G) (K0 : Nat → ClassId) (h : Nat → Nat) (σ : pS) (a1 : Int32) {r : Int32} (hf : fX0_isPaid σ a1 = some r) : Met l0 yX0_isPaid wsX0_isPaid ({ frames := 0, cells := 0, slots := 0, locals := 0 } : Room) (va_Pc [.ref (h 2), .int a1] (pIn wX D0 K0 h σ)) (va_Qi (fun r' u' => r' = r ∧ u' = σ) (pOut wX D0 K0 h) (pA wX h)) 0 0 (pA wX h) := by
  refine p_metZ (lv := [(0, .ref (h 2)), (1, .int a1)]) (by decide +kernel) rfl rfl (Nat.le_of_ble_eq_true rfl) rfl (fun X C hret => ?_)
  unfold fX0_isPaid at hf
  refine g_aload_n C 0 dX0_isPaid_0 rfl rfl ?_
  refine g_getC (n := 9) C in_X0_isPaid_X0 (k := 0) lk_X0_isPaid_0 rfl (Nat.le_of_ble_eq_true rfl) rfl (Nat.le_of_ble_eq_true rfl) rfl dX0_isPaid_1 ?_
  refine g_iload_n C 1 dX0_isPaid_4 rfl rfl ?_
  refine g_iald hf C rfl (Nat.le_of_ble_eq_true rfl) dX0_isPaid_5 (fun hf => ?_)
  refine g_bipush C dX0_isPaid_6 bp_m9 ?_
  refine g_icmp_eq (tgt := 15) hf C dX0_isPaid_8 (by decide) (fun hf => ?_) (fun hf => ?_)
  · refine g_iconst C dX0_isPaid_15 ic_0 ?_
    exact g_retz hf (by decide) hret dX0_isPaid_16
  · refine g_iconst C dX0_isPaid_11 ic_1 ?_
    refine g_goto (tgt := 16) C dX0_isPaid_12 (by decide) ?_
    exact g_retz hf (by decide) hret dX0_isPaid_16
/-! X0_howManyPaid -/
theorem ddX0_howManyPaid : yX0_howManyPaid.cls = RX0 ∧ yX0_howManyPaid.cls ≠ "java/lang/invoke/MethodHandle" ∧ yX0_howManyPaid.cls ≠ "java/lang/invoke/VarHandle" ∧ (parseMethodDescriptor yX0_howManyPaid.desc).map (fun d => d.parameters.length) = some 1 := by decide +kernel
set_option maxHeartbeats 4000000 in
set_option maxRecDepth 100000 in
theorem lX0_howManyPaid_4_ok {h : Nat → Nat} {X : Cx} {l0 : Launch} {D0 : va_G} {K0 : Nat → ClassId} (σ : pS) (p1 : Int32) {k26 : Int32 → Option Int32} {r : Int32} (C : Cok wX h X l0 ({ frames := 1, cells := 0, slots := 0, locals := 21 } : Room) D0 K0 cX0_howManyPaid 4 RX0 wsX0_howManyPaid) (hret : ∀ (pc : Nat) (lv' : List (Nat × Value)), decode cX0_howManyPaid pc = .ok (.ireturn, 1) → G wX h X pc lv' [.int r] σ) (hk26 : ∀ (z2 : Int32), k26 z2 = some r → G wX h X 26 [(2, .int z2)] [] σ) : ∀ (F : Nat) (v2 : Int32) (v3 : Int32), lX0_howManyPaid_4 σ p1 k26 F v2 v3 = some r → G wX h X 4 [(0, .ref (h 2)), (1, .int p1), (2, .int v2), (3, .int v3)] [] σ := by
  intro F
  induction F with
  | zero => intro v2 v3 hf; exact absurd hf (by simp [lX0_howManyPaid_4])
  | succ F ih =>
    intro v2 v3 hf
    rw [lX0_howManyPaid_4.eq_2] at hf
    refine g_iload_n C 3 dX0_howManyPaid_4 rfl rfl ?_
    refine g_iload_n C 1 dX0_howManyPaid_5 rfl rfl ?_
    refine g_icmp_ge (tgt := 26) hf C dX0_howManyPaid_6 (by decide) (fun hf => ?_) (fun hf => ?_)
    · refine g_lv [2] rfl ?_
      exact hk26 v2 hf
    · refine g_aload_n C 0 dX0_howManyPaid_9 rfl rfl ?_
      refine g_iload_n C 3 dX0_howManyPaid_10 rfl rfl ?_
      obtain ⟨r2, hc1, hf⟩ := g_bind hf
      refine g_callVi C (mX0_isPaid l0 D0 K0 h σ v3 hc1) gX0_howManyPaid_X0_isPaid rfl rfl rfl ddX0_isPaid ⟨(Nat.le_of_ble_eq_true rfl), (Nat.le_of_ble_eq_true rfl)⟩ rfl (Nat.le_of_ble_eq_true rfl) rfl rfl rfl (Nat.le_of_ble_eq_true rfl) dX0_howManyPaid_11 ?_
      refine g_if_eq (tgt := 20) hf C dX0_howManyPaid_14 (by decide) (fun hf => ?_) (fun hf => ?_)
      · refine g_iinc C 3 [1, 2, 3, 0] dX0_howManyPaid_20 rfl ic_1 (Nat.le_of_ble_eq_true rfl) rfl ?_
        refine g_goto (tgt := 4) C dX0_howManyPaid_23 (by decide) ?_
        exact ih v2 (v3 + (1 : Int32)) hf
      · refine g_iinc C 2 [1, 2, 0, 3] dX0_howManyPaid_17 rfl ic_1 (Nat.le_of_ble_eq_true rfl) rfl ?_
        refine g_iinc C 3 [1, 2, 3, 0] dX0_howManyPaid_20 rfl ic_1 (Nat.le_of_ble_eq_true rfl) rfl ?_
        refine g_goto (tgt := 4) C dX0_howManyPaid_23 (by decide) ?_
        exact ih (v2 + (1 : Int32)) (v3 + (1 : Int32)) hf
set_option maxHeartbeats 4000000 in
set_option maxRecDepth 100000 in
theorem mX0_howManyPaid (l0 : Launch) (D0 : va_G) (K0 : Nat → ClassId) (h : Nat → Nat) (σ : pS) (a1 : Int32) {r : Int32} (hf : fX0_howManyPaid σ a1 = some r) : Met l0 yX0_howManyPaid wsX0_howManyPaid ({ frames := 1, cells := 0, slots := 0, locals := 21 } : Room) (va_Pc [.ref (h 2), .int a1] (pIn wX D0 K0 h σ)) (va_Qi (fun r' u' => r' = r ∧ u' = σ) (pOut wX D0 K0 h) (pA wX h)) 0 0 (pA wX h) := by
  refine p_metI (lv := [(0, .ref (h 2)), (1, .int a1)]) (by decide +kernel) rfl rfl (Nat.le_of_ble_eq_true rfl) rfl (fun X C hret => ?_)
  unfold fX0_howManyPaid at hf
  refine g_iconst C dX0_howManyPaid_0 ic_0 ?_
  refine g_istore_n C [1, 2, 0] dX0_howManyPaid_1 rfl (Nat.le_of_ble_eq_true rfl) rfl ?_
  refine g_iconst C dX0_howManyPaid_2 ic_0 ?_
  refine g_istore_n C [1, 2, 3, 0] dX0_howManyPaid_3 rfl (Nat.le_of_ble_eq_true rfl) rfl ?_
  refine lX0_howManyPaid_4_ok σ a1 C hret (fun y3 hf => ?_) FU (0 : Int32) (0 : Int32) hf
  refine g_iload_n C 0 dX0_howManyPaid_26 rfl rfl ?_
  exact g_reti hf hret dX0_howManyPaid_27
/-! X0_howManyKept -/
theorem in_X0_howManyKept_X0 : ∀ q ∈ u_ws RX0 TX0 3, q ∈ wsX0_howManyKept := by decide +kernel
theorem lk_X0_howManyKept_0 : Cond.fieldLink RX0 20 "EmptyHouse$Books" "isKept" "[Z" ∈ wsX0_howManyKept := by decide +kernel
theorem ddX0_howManyKept : yX0_howManyKept.cls = RX0 ∧ yX0_howManyKept.cls ≠ "java/lang/invoke/MethodHandle" ∧ yX0_howManyKept.cls ≠ "java/lang/invoke/VarHandle" ∧ (parseMethodDescriptor yX0_howManyKept.desc).map (fun d => d.parameters.length) = some 0 := by decide +kernel
set_option maxHeartbeats 4000000 in
set_option maxRecDepth 100000 in
theorem lX0_howManyKept_13_ok {h : Nat → Nat} {X : Cx} {l0 : Launch} {D0 : va_G} {K0 : Nat → ClassId} (σ : pS) (p3 : Int32) {k39 : Int32 → Option Int32} {r : Int32} (C : Cok wX h X l0 ({ frames := 0, cells := 0, slots := 0, locals := 0 } : Room) D0 K0 cX0_howManyKept 6 RX0 wsX0_howManyKept) (hret : ∀ (pc : Nat) (lv' : List (Nat × Value)), decode cX0_howManyKept pc = .ok (.ireturn, 1) → G wX h X pc lv' [.int r] σ) (hk39 : ∀ (z1 : Int32), k39 z1 = some r → G wX h X 39 [(1, .int z1)] [] σ) : ∀ (F : Nat) (v1 : Int32) (v4 : Int32), lX0_howManyKept_13 σ p3 k39 F v1 v4 = some r → G wX h X 13 [(1, .int v1), (2, .ref (h 11)), (3, .int p3), (4, .int v4)] [] σ := by
  intro F
  induction F with
  | zero => intro v1 v4 hf; exact absurd hf (by simp [lX0_howManyKept_13])
  | succ F ih =>
    intro v1 v4 hf
    rw [lX0_howManyKept_13.eq_2] at hf
    refine g_iload C 3 dX0_howManyKept_13 rfl ?_
    refine g_iload_n C 2 dX0_howManyKept_15 rfl rfl ?_
    refine g_icmp_ge (tgt := 39) hf C dX0_howManyKept_16 (by decide) (fun hf => ?_) (fun hf => ?_)
    · refine g_lv [0] rfl ?_
      exact hk39 v1 hf
    · refine g_aload_n C 1 dX0_howManyKept_19 rfl rfl ?_
      refine g_iload C 3 dX0_howManyKept_20 rfl ?_
      refine g_zald hf C rfl (Nat.le_of_ble_eq_true rfl) dX0_howManyKept_22 (fun hf => ?_)
      refine g_leti hf (fun x2 hf => ?_)
      refine g_istore C [1, 2, 3, 4, 0] dX0_howManyKept_23 (Nat.le_of_ble_eq_true rfl) rfl ?_
      refine g_iload C 4 dX0_howManyKept_25 rfl ?_
      refine g_if_eq (tgt := 33) hf C dX0_howManyKept_27 (by decide) (fun hf => ?_) (fun hf => ?_)
      · refine g_iinc C 3 [1, 2, 3, 0] dX0_howManyKept_33 rfl ic_1 (Nat.le_of_ble_eq_true rfl) rfl ?_
        refine g_goto (tgt := 13) C dX0_howManyKept_36 (by decide) ?_
        exact ih v1 (v4 + (1 : Int32)) hf
      · refine g_iinc C 0 [0, 1, 2, 3] dX0_howManyKept_30 rfl ic_1 (Nat.le_of_ble_eq_true rfl) rfl ?_
        refine g_iinc C 3 [1, 2, 3, 0] dX0_howManyKept_33 rfl ic_1 (Nat.le_of_ble_eq_true rfl) rfl ?_
        refine g_goto (tgt := 13) C dX0_howManyKept_36 (by decide) ?_
        exact ih (v1 + (1 : Int32)) (v4 + (1 : Int32)) hf
set_option maxHeartbeats 4000000 in
set_option maxRecDepth 100000 in
theorem mX0_howManyKept (l0 : Launch) (D0 : va_G) (K0 : Nat → ClassId) (h : Nat → Nat) (σ : pS)  {r : Int32} (hf : fX0_howManyKept σ = some r) : Met l0 yX0_howManyKept wsX0_howManyKept ({ frames := 0, cells := 0, slots := 0, locals := 0 } : Room) (va_Pc [.ref (h 2)] (pIn wX D0 K0 h σ)) (va_Qi (fun r' u' => r' = r ∧ u' = σ) (pOut wX D0 K0 h) (pA wX h)) 0 0 (pA wX h) := by
  refine p_metI (lv := [(0, .ref (h 2))]) (by decide +kernel) rfl rfl (Nat.le_of_ble_eq_true rfl) rfl (fun X C hret => ?_)
  unfold fX0_howManyKept at hf
  refine g_iconst C dX0_howManyKept_0 ic_0 ?_
  refine g_istore_n C [1, 0] dX0_howManyKept_1 rfl (Nat.le_of_ble_eq_true rfl) rfl ?_
  refine g_aload_n C 0 dX0_howManyKept_2 rfl rfl ?_
  refine g_getC (n := 11) C in_X0_howManyKept_X0 (k := 2) lk_X0_howManyKept_0 rfl (Nat.le_of_ble_eq_true rfl) rfl (Nat.le_of_ble_eq_true rfl) rfl dX0_howManyKept_3 ?_
  refine g_astore_n C [1, 2, 0] dX0_howManyKept_6 rfl (Nat.le_of_ble_eq_true rfl) rfl ?_
  refine g_aload_n C 2 dX0_howManyKept_7 rfl rfl ?_
  refine g_alen C rfl (Nat.le_of_ble_eq_true rfl) rfl dX0_howManyKept_8 ?_
  refine g_leti hf (fun x1 hf => ?_)
  refine g_istore_n C [1, 2, 3, 0] dX0_howManyKept_9 rfl (Nat.le_of_ble_eq_true rfl) rfl ?_
  refine g_iconst C dX0_howManyKept_10 ic_0 ?_
  refine g_istore C [1, 2, 3, 4, 0] dX0_howManyKept_11 (Nat.le_of_ble_eq_true rfl) rfl ?_
  refine g_lv [1, 2, 3, 4] rfl ?_
  refine lX0_howManyKept_13_ok σ x1 C hret (fun y3 hf => ?_) FU (0 : Int32) (0 : Int32) hf
  refine g_iload_n C 0 dX0_howManyKept_39 rfl rfl ?_
  exact g_reti hf hret dX0_howManyKept_40
/-! X0_store -/
theorem in_X0_store_X0 : ∀ q ∈ u_ws RX0 TX0 3, q ∈ wsX0_store := by decide +kernel
theorem lk_X0_store_0 : Cond.fieldLink RX0 9 "EmptyHouse$Books" "paidIn" "[I" ∈ wsX0_store := by decide +kernel
theorem lk_X0_store_1 : Cond.fieldLink RX0 17 "EmptyHouse$Books" "kept" "[[I" ∈ wsX0_store := by decide +kernel
theorem lk_X0_store_2 : Cond.methodLink RX0 34 arraycopyName ∈ wsX0_store := by decide +kernel
theorem lk_X0_store_3 : Cond.native arraycopyName ∈ wsX0_store := by decide +kernel
theorem lk_X0_store_4 : Cond.static arraycopyName ∈ wsX0_store := by decide +kernel
theorem lk_X0_store_5 : Cond.initialized "java/lang/System" ∈ wsX0_store := by decide +kernel
theorem lk_X0_store_6 : Cond.fieldLink RX0 20 "EmptyHouse$Books" "isKept" "[Z" ∈ wsX0_store := by decide +kernel
theorem ddX0_store : yX0_store.cls = RX0 ∧ yX0_store.cls ≠ "java/lang/invoke/MethodHandle" ∧ yX0_store.cls ≠ "java/lang/invoke/VarHandle" ∧ (parseMethodDescriptor yX0_store.desc).map (fun d => d.parameters.length) = some 1 := by decide +kernel
set_option maxHeartbeats 4000000 in
set_option maxRecDepth 100000 in
theorem mX0_store (l0 : Launch) (D0 : va_G) (K0 : Nat → ClassId) (h : Nat → Nat) (σ : pS) (a1 : Int32) {r : Unit} {u : pS} (hf : fX0_store σ a1 = some (r, u)) : Met l0 yX0_store wsX0_store ({ frames := 1, cells := 0, slots := 0, locals := 60 } : Room) (va_Pc [.ref (h 2), .int a1] (pIn wX D0 K0 h σ)) (va_Qv (fun u' => u' = u) (pOut wX D0 K0 h) (pA wX h)) 0 0 (pA wX h) := by
  refine p_metV (lv := [(0, .ref (h 2)), (1, .int a1)]) (by decide +kernel) rfl rfl (Nat.le_of_ble_eq_true rfl) rfl (fun X C hret => ?_)
  unfold fX0_store at hf
  refine g_aload_n C 0 dX0_store_0 rfl rfl ?_
  refine g_getC (n := 9) C in_X0_store_X0 (k := 0) lk_X0_store_0 rfl (Nat.le_of_ble_eq_true rfl) rfl (Nat.le_of_ble_eq_true rfl) rfl dX0_store_1 ?_
  refine g_iconst C dX0_store_4 ic_0 ?_
  refine g_aload_n C 0 dX0_store_5 rfl rfl ?_
  refine g_getC (n := 10) C in_X0_store_X0 (k := 1) lk_X0_store_1 rfl (Nat.le_of_ble_eq_true rfl) rfl (Nat.le_of_ble_eq_true rfl) rfl dX0_store_6 ?_
  refine g_iload_n C 1 dX0_store_9 rfl rfl ?_
  refine g_aald hf C rfl (by decide) (Nat.le_of_ble_eq_true rfl) dX0_store_10 (fun hp1 hf => ?_)
  refine g_iconst C dX0_store_11 ic_0 ?_
  refine g_bipush C dX0_store_12 bp_8 ?_
  refine g_copy hf C lk_X0_store_2 lk_X0_store_3 lk_X0_store_4 lk_X0_store_5 rfl (Nat.le_of_ble_eq_true rfl) (sh_kept _ (pin_lt hp1)).1 (sh_kept _ (pin_lt hp1)).2 (Nat.le_of_ble_eq_true rfl) (Nat.le_of_ble_eq_true rfl) dX0_store_14 (fun hf => ?_)
  refine g_lets hf (fun σ2 hf => ?_)
  refine g_aload_n C 0 dX0_store_17 rfl rfl ?_
  refine g_getC (n := 11) C in_X0_store_X0 (k := 2) lk_X0_store_6 rfl (Nat.le_of_ble_eq_true rfl) rfl (Nat.le_of_ble_eq_true rfl) rfl dX0_store_18 ?_
  refine g_iload_n C 1 dX0_store_21 rfl rfl ?_
  refine g_iconst C dX0_store_22 ic_1 ?_
  refine g_zast hf C rfl (Nat.le_of_ble_eq_true rfl) dX0_store_23 (fun hf => ?_)
  refine g_lets hf (fun σ3 hf => ?_)
  exact g_retvW hf hret dX0_store_24
/-! X0_restore -/
theorem in_X0_restore_X0 : ∀ q ∈ u_ws RX0 TX0 3, q ∈ wsX0_restore := by decide +kernel
theorem lk_X0_restore_0 : Cond.fieldLink RX0 17 "EmptyHouse$Books" "kept" "[[I" ∈ wsX0_restore := by decide +kernel
theorem lk_X0_restore_1 : Cond.fieldLink RX0 9 "EmptyHouse$Books" "paidIn" "[I" ∈ wsX0_restore := by decide +kernel
theorem lk_X0_restore_2 : Cond.methodLink RX0 34 arraycopyName ∈ wsX0_restore := by decide +kernel
theorem lk_X0_restore_3 : Cond.native arraycopyName ∈ wsX0_restore := by decide +kernel
theorem lk_X0_restore_4 : Cond.static arraycopyName ∈ wsX0_restore := by decide +kernel
theorem lk_X0_restore_5 : Cond.initialized "java/lang/System" ∈ wsX0_restore := by decide +kernel
theorem ddX0_restore : yX0_restore.cls = RX0 ∧ yX0_restore.cls ≠ "java/lang/invoke/MethodHandle" ∧ yX0_restore.cls ≠ "java/lang/invoke/VarHandle" ∧ (parseMethodDescriptor yX0_restore.desc).map (fun d => d.parameters.length) = some 1 := by decide +kernel
set_option maxHeartbeats 4000000 in
set_option maxRecDepth 100000 in
theorem mX0_restore (l0 : Launch) (D0 : va_G) (K0 : Nat → ClassId) (h : Nat → Nat) (σ : pS) (a1 : Int32) {r : Unit} {u : pS} (hf : fX0_restore σ a1 = some (r, u)) : Met l0 yX0_restore wsX0_restore ({ frames := 1, cells := 0, slots := 0, locals := 60 } : Room) (va_Pc [.ref (h 2), .int a1] (pIn wX D0 K0 h σ)) (va_Qv (fun u' => u' = u) (pOut wX D0 K0 h) (pA wX h)) 0 0 (pA wX h) := by
  refine p_metV (lv := [(0, .ref (h 2)), (1, .int a1)]) (by decide +kernel) rfl rfl (Nat.le_of_ble_eq_true rfl) rfl (fun X C hret => ?_)
  unfold fX0_restore at hf
  refine g_aload_n C 0 dX0_restore_0 rfl rfl ?_
  refine g_getC (n := 10) C in_X0_restore_X0 (k := 1) lk_X0_restore_0 rfl (Nat.le_of_ble_eq_true rfl) rfl (Nat.le_of_ble_eq_true rfl) rfl dX0_restore_1 ?_
  refine g_iload_n C 1 dX0_restore_4 rfl rfl ?_
  refine g_aald hf C rfl (by decide) (Nat.le_of_ble_eq_true rfl) dX0_restore_5 (fun hp1 hf => ?_)
  refine g_iconst C dX0_restore_6 ic_0 ?_
  refine g_aload_n C 0 dX0_restore_7 rfl rfl ?_
  refine g_getC (n := 9) C in_X0_restore_X0 (k := 0) lk_X0_restore_1 rfl (Nat.le_of_ble_eq_true rfl) rfl (Nat.le_of_ble_eq_true rfl) rfl dX0_restore_8 ?_
  refine g_iconst C dX0_restore_11 ic_0 ?_
  refine g_bipush C dX0_restore_12 bp_8 ?_
  refine g_copy hf C lk_X0_restore_2 lk_X0_restore_3 lk_X0_restore_4 lk_X0_restore_5 (sh_kept _ (pin_lt hp1)).1 (sh_kept _ (pin_lt hp1)).2 rfl (Nat.le_of_ble_eq_true rfl) (Nat.le_of_ble_eq_true rfl) (Nat.le_of_ble_eq_true rfl) dX0_restore_14 (fun hf => ?_)
  refine g_lets hf (fun σ2 hf => ?_)
  exact g_retvW hf hret dX0_restore_17
/-! X3_isPerson -/
theorem in_X3_isPerson_X3 : ∀ q ∈ u_ws RX3 TX3 11, q ∈ wsX3_isPerson := by decide +kernel
theorem lk_X3_isPerson_0 : Cond.fieldLink RX3 9 "EmptyHouse$Village" "people" "I" ∈ wsX3_isPerson := by decide +kernel
theorem ddX3_isPerson : yX3_isPerson.cls = RX3 ∧ yX3_isPerson.cls ≠ "java/lang/invoke/MethodHandle" ∧ yX3_isPerson.cls ≠ "java/lang/invoke/VarHandle" ∧ (parseMethodDescriptor yX3_isPerson.desc).map (fun d => d.parameters.length) = some 1 := by decide +kernel
set_option maxHeartbeats 4000000 in
set_option maxRecDepth 100000 in
theorem mX3_isPerson (l0 : Launch) (D0 : va_G) (K0 : Nat → ClassId) (h : Nat → Nat) (σ : pS) (v : Nat) (a1 : Int32) {r : Int32} (hf : fX3_isPerson σ v a1 = some r) : Met l0 yX3_isPerson wsX3_isPerson ({ frames := 0, cells := 0, slots := 0, locals := 0 } : Room) (va_Pc [.ref (h v), .int a1] (pIn wX D0 K0 h σ)) (va_Qi (fun r' u' => r' = r ∧ u' = σ) (pOut wX D0 K0 h) (pA wX h)) 0 0 (pA wX h) := by
  refine p_metZ (lv := [(0, .ref (h v)), (1, .int a1)]) (by decide +kernel) rfl rfl (Nat.le_of_ble_eq_true rfl) rfl (fun X C hret => ?_)
  unfold fX3_isPerson at hf
  refine g_iload_n C 1 dX3_isPerson_0 rfl rfl ?_
  refine g_if_lt (tgt := 16) hf C dX3_isPerson_1 (by decide) (fun hf => ?_) (fun hf => ?_)
  · refine g_iconst C dX3_isPerson_16 ic_0 ?_
    exact g_retz hf (by decide) hret dX3_isPerson_17
  · refine g_iload_n C 1 dX3_isPerson_4 rfl rfl ?_
    refine g_aload_n C 0 dX3_isPerson_5 rfl rfl ?_
    obtain ⟨hg1, hf⟩ := g_guard hf
    refine g_getI C in_X3_isPerson_X3 (k := 0) lk_X3_isPerson_0 rfl (Nat.le_of_ble_eq_true rfl) (shV hg1) (ltV hg1) rfl dX3_isPerson_6 ?_
    refine g_icmp_ge (tgt := 16) hf C dX3_isPerson_9 (by decide) (fun hf => ?_) (fun hf => ?_)
    · refine g_iconst C dX3_isPerson_16 ic_0 ?_
      exact g_retz hf (by decide) hret dX3_isPerson_17
    · refine g_iconst C dX3_isPerson_12 ic_1 ?_
      refine g_goto (tgt := 17) C dX3_isPerson_13 (by decide) ?_
      exact g_retz hf (by decide) hret dX3_isPerson_17
/-! X3_addPerson -/
theorem in_X3_addPerson_X3 : ∀ q ∈ u_ws RX3 TX3 11, q ∈ wsX3_addPerson := by decide +kernel
theorem lk_X3_addPerson_0 : Cond.fieldLink RX3 9 "EmptyHouse$Village" "people" "I" ∈ wsX3_addPerson := by decide +kernel
theorem lk_X3_addPerson_1 : Cond.fieldLink RX3 21 "EmptyHouse$Village" "kind" "[I" ∈ wsX3_addPerson := by decide +kernel
theorem lk_X3_addPerson_2 : Cond.fieldLink RX3 25 "EmptyHouse$Village" "mate" "[I" ∈ wsX3_addPerson := by decide +kernel
theorem lk_X3_addPerson_3 : Cond.fieldLink RX3 28 "EmptyHouse$Village" "out" "[I" ∈ wsX3_addPerson := by decide +kernel
theorem lk_X3_addPerson_4 : Cond.fieldLink RX3 31 "EmptyHouse$Village" "cards" "[I" ∈ wsX3_addPerson := by decide +kernel
theorem ddX3_addPerson : yX3_addPerson.cls = RX3 ∧ yX3_addPerson.cls ≠ "java/lang/invoke/MethodHandle" ∧ yX3_addPerson.cls ≠ "java/lang/invoke/VarHandle" ∧ (parseMethodDescriptor yX3_addPerson.desc).map (fun d => d.parameters.length) = some 3 := by decide +kernel
set_option maxHeartbeats 4000000 in
set_option maxRecDepth 100000 in
theorem mX3_addPerson (l0 : Launch) (D0 : va_G) (K0 : Nat → ClassId) (h : Nat → Nat) (σ : pS) (v : Nat) (a1 : Int32) (a2 : Int32) (a3 : Int32) {r : Unit} {u : pS} (hf : fX3_addPerson σ v a1 a2 a3 = some (r, u)) : Met l0 yX3_addPerson wsX3_addPerson ({ frames := 0, cells := 0, slots := 0, locals := 0 } : Room) (va_Pc [.ref (h v), .int a1, .int a2, .int a3] (pIn wX D0 K0 h σ)) (va_Qv (fun u' => u' = u) (pOut wX D0 K0 h) (pA wX h)) 0 0 (pA wX h) := by
  refine p_metV (lv := [(0, .ref (h v)), (1, .int a1), (2, .int a2), (3, .int a3)]) (by decide +kernel) rfl rfl (Nat.le_of_ble_eq_true rfl) rfl (fun X C hret => ?_)
  unfold fX3_addPerson at hf
  refine g_aload_n C 0 dX3_addPerson_0 rfl rfl ?_
  obtain ⟨hg1, hf⟩ := g_guard hf
  refine g_getI C in_X3_addPerson_X3 (k := 0) lk_X3_addPerson_0 rfl (Nat.le_of_ble_eq_true rfl) (shV hg1) (ltV hg1) rfl dX3_addPerson_1 ?_
  refine g_bipush C dX3_addPerson_4 bp_6 ?_
  refine g_icmp_ge (tgt := 59) hf C dX3_addPerson_6 (by decide) (fun hf => ?_) (fun hf => ?_)
  · exact g_retvW hf hret dX3_addPerson_59
  · refine g_aload_n C 0 dX3_addPerson_9 rfl rfl ?_
    refine g_getC (n := v + 1) C in_X3_addPerson_X3 (k := 3) lk_X3_addPerson_1 rfl (Nat.le_of_ble_eq_true rfl) (shV hg1) (ltV hg1) rfl dX3_addPerson_10 ?_
    refine g_aload_n C 0 dX3_addPerson_13 rfl rfl ?_
    refine g_getI C in_X3_addPerson_X3 (k := 0) lk_X3_addPerson_0 rfl (Nat.le_of_ble_eq_true rfl) (shV hg1) (ltV hg1) rfl dX3_addPerson_14 ?_
    refine g_iload_n C 1 dX3_addPerson_17 rfl rfl ?_
    refine g_iast hf C (shV1 hg1).1 (shV1 hg1).2 dX3_addPerson_18 (fun hf => ?_)
    refine g_lets hf (fun σ2 hf => ?_)
    refine g_aload_n C 0 dX3_addPerson_19 rfl rfl ?_
    refine g_getC (n := v + 2) C in_X3_addPerson_X3 (k := 4) lk_X3_addPerson_2 rfl (Nat.le_of_ble_eq_true rfl) (shV hg1) (ltV hg1) rfl dX3_addPerson_20 ?_
    refine g_aload_n C 0 dX3_addPerson_23 rfl rfl ?_
    refine g_getI C in_X3_addPerson_X3 (k := 0) lk_X3_addPerson_0 rfl (Nat.le_of_ble_eq_true rfl) (shV hg1) (ltV hg1) rfl dX3_addPerson_24 ?_
    refine g_iload_n C 2 dX3_addPerson_27 rfl rfl ?_
    refine g_iast hf C (shV2 hg1).1 (shV2 hg1).2 dX3_addPerson_28 (fun hf => ?_)
    refine g_lets hf (fun σ3 hf => ?_)
    refine g_aload_n C 0 dX3_addPerson_29 rfl rfl ?_
    refine g_getC (n := v + 3) C in_X3_addPerson_X3 (k := 5) lk_X3_addPerson_3 rfl (Nat.le_of_ble_eq_true rfl) (shV hg1) (ltV hg1) rfl dX3_addPerson_30 ?_
    refine g_aload_n C 0 dX3_addPerson_33 rfl rfl ?_
    refine g_getI C in_X3_addPerson_X3 (k := 0) lk_X3_addPerson_0 rfl (Nat.le_of_ble_eq_true rfl) (shV hg1) (ltV hg1) rfl dX3_addPerson_34 ?_
    refine g_iload_n C 3 dX3_addPerson_37 rfl rfl ?_
    refine g_iast hf C (shV3 hg1).1 (shV3 hg1).2 dX3_addPerson_38 (fun hf => ?_)
    refine g_lets hf (fun σ4 hf => ?_)
    refine g_aload_n C 0 dX3_addPerson_39 rfl rfl ?_
    refine g_getC (n := v + 4) C in_X3_addPerson_X3 (k := 6) lk_X3_addPerson_4 rfl (Nat.le_of_ble_eq_true rfl) (shV hg1) (ltV hg1) rfl dX3_addPerson_40 ?_
    refine g_aload_n C 0 dX3_addPerson_43 rfl rfl ?_
    refine g_getI C in_X3_addPerson_X3 (k := 0) lk_X3_addPerson_0 rfl (Nat.le_of_ble_eq_true rfl) (shV hg1) (ltV hg1) rfl dX3_addPerson_44 ?_
    refine g_iconst C dX3_addPerson_47 ic_5 ?_
    refine g_iast hf C (shV4 hg1).1 (shV4 hg1).2 dX3_addPerson_48 (fun hf => ?_)
    refine g_lets hf (fun σ5 hf => ?_)
    refine g_aload_n C 0 dX3_addPerson_49 rfl rfl ?_
    refine g_dup C dX3_addPerson_50 rfl ?_
    refine g_getI C in_X3_addPerson_X3 (k := 0) lk_X3_addPerson_0 rfl (Nat.le_of_ble_eq_true rfl) (shV hg1) (ltV hg1) rfl dX3_addPerson_51 ?_
    refine g_iconst C dX3_addPerson_54 ic_1 ?_
    refine g_iadd C dX3_addPerson_55 ?_
    refine g_putI C in_X3_addPerson_X3 (k := 0) lk_X3_addPerson_0 rfl (Nat.le_of_ble_eq_true rfl) (shV hg1) (ltV hg1) tyX3 tyX3_ok nmX3 rfl rfl rfl rfl dX3_addPerson_56 ?_
    refine g_lets hf (fun σ6 hf => ?_)
    exact g_retvW hf hret dX3_addPerson_59
/-! X3_addDebt -/
theorem in_X3_addDebt_X3 : ∀ q ∈ u_ws RX3 TX3 11, q ∈ wsX3_addDebt := by decide +kernel
theorem lk_X3_addDebt_0 : Cond.fieldLink RX3 15 "EmptyHouse$Village" "debts" "I" ∈ wsX3_addDebt := by decide +kernel
theorem lk_X3_addDebt_1 : Cond.fieldLink RX3 34 "EmptyHouse$Village" "debtor" "[I" ∈ wsX3_addDebt := by decide +kernel
theorem lk_X3_addDebt_2 : Cond.fieldLink RX3 37 "EmptyHouse$Village" "creditor" "[I" ∈ wsX3_addDebt := by decide +kernel
theorem lk_X3_addDebt_3 : Cond.fieldLink RX3 40 "EmptyHouse$Village" "value" "[I" ∈ wsX3_addDebt := by decide +kernel
theorem lk_X3_addDebt_4 : Cond.fieldLink RX3 43 "EmptyHouse$Village" "interest" "[I" ∈ wsX3_addDebt := by decide +kernel
theorem ddX3_addDebt : yX3_addDebt.cls = RX3 ∧ yX3_addDebt.cls ≠ "java/lang/invoke/MethodHandle" ∧ yX3_addDebt.cls ≠ "java/lang/invoke/VarHandle" ∧ (parseMethodDescriptor yX3_addDebt.desc).map (fun d => d.parameters.length) = some 4 := by decide +kernel
set_option maxHeartbeats 4000000 in
set_option maxRecDepth 100000 in
theorem mX3_addDebt (l0 : Launch) (D0 : va_G) (K0 : Nat → ClassId) (h : Nat → Nat) (σ : pS) (v : Nat) (a1 : Int32) (a2 : Int32) (a3 : Int32) (a4 : Int32) {r : Unit} {u : pS} (hf : fX3_addDebt σ v a1 a2 a3 a4 = some (r, u)) : Met l0 yX3_addDebt wsX3_addDebt ({ frames := 0, cells := 0, slots := 0, locals := 0 } : Room) (va_Pc [.ref (h v), .int a1, .int a2, .int a3, .int a4] (pIn wX D0 K0 h σ)) (va_Qv (fun u' => u' = u) (pOut wX D0 K0 h) (pA wX h)) 0 0 (pA wX h) := by
  refine p_metV (lv := [(0, .ref (h v)), (1, .int a1), (2, .int a2), (3, .int a3), (4, .int a4)]) (by decide +kernel) rfl rfl (Nat.le_of_ble_eq_true rfl) rfl (fun X C hret => ?_)
  unfold fX3_addDebt at hf
  refine g_aload_n C 0 dX3_addDebt_0 rfl rfl ?_
  obtain ⟨hg1, hf⟩ := g_guard hf
  refine g_getI C in_X3_addDebt_X3 (k := 1) lk_X3_addDebt_0 rfl (Nat.le_of_ble_eq_true rfl) (shV hg1) (ltV hg1) rfl dX3_addDebt_1 ?_
  refine g_bipush C dX3_addDebt_4 bp_8 ?_
  refine g_icmp_ge (tgt := 60) hf C dX3_addDebt_6 (by decide) (fun hf => ?_) (fun hf => ?_)
  · exact g_retvW hf hret dX3_addDebt_60
  · refine g_aload_n C 0 dX3_addDebt_9 rfl rfl ?_
    refine g_getC (n := v + 5) C in_X3_addDebt_X3 (k := 7) lk_X3_addDebt_1 rfl (Nat.le_of_ble_eq_true rfl) (shV hg1) (ltV hg1) rfl dX3_addDebt_10 ?_
    refine g_aload_n C 0 dX3_addDebt_13 rfl rfl ?_
    refine g_getI C in_X3_addDebt_X3 (k := 1) lk_X3_addDebt_0 rfl (Nat.le_of_ble_eq_true rfl) (shV hg1) (ltV hg1) rfl dX3_addDebt_14 ?_
    refine g_iload_n C 1 dX3_addDebt_17 rfl rfl ?_
    refine g_iast hf C (shV5 hg1).1 (shV5 hg1).2 dX3_addDebt_18 (fun hf => ?_)
    refine g_lets hf (fun σ2 hf => ?_)
    refine g_aload_n C 0 dX3_addDebt_19 rfl rfl ?_
    refine g_getC (n := v + 6) C in_X3_addDebt_X3 (k := 8) lk_X3_addDebt_2 rfl (Nat.le_of_ble_eq_true rfl) (shV hg1) (ltV hg1) rfl dX3_addDebt_20 ?_
    refine g_aload_n C 0 dX3_addDebt_23 rfl rfl ?_
    refine g_getI C in_X3_addDebt_X3 (k := 1) lk_X3_addDebt_0 rfl (Nat.le_of_ble_eq_true rfl) (shV hg1) (ltV hg1) rfl dX3_addDebt_24 ?_
    refine g_iload_n C 2 dX3_addDebt_27 rfl rfl ?_
    refine g_iast hf C (shV6 hg1).1 (shV6 hg1).2 dX3_addDebt_28 (fun hf => ?_)
    refine g_lets hf (fun σ3 hf => ?_)
    refine g_aload_n C 0 dX3_addDebt_29 rfl rfl ?_
    refine g_getC (n := v + 7) C in_X3_addDebt_X3 (k := 9) lk_X3_addDebt_3 rfl (Nat.le_of_ble_eq_true rfl) (shV hg1) (ltV hg1) rfl dX3_addDebt_30 ?_
    refine g_aload_n C 0 dX3_addDebt_33 rfl rfl ?_
    refine g_getI C in_X3_addDebt_X3 (k := 1) lk_X3_addDebt_0 rfl (Nat.le_of_ble_eq_true rfl) (shV hg1) (ltV hg1) rfl dX3_addDebt_34 ?_
    refine g_iload_n C 3 dX3_addDebt_37 rfl rfl ?_
    refine g_iast hf C (shV7 hg1).1 (shV7 hg1).2 dX3_addDebt_38 (fun hf => ?_)
    refine g_lets hf (fun σ4 hf => ?_)
    refine g_aload_n C 0 dX3_addDebt_39 rfl rfl ?_
    refine g_getC (n := v + 8) C in_X3_addDebt_X3 (k := 10) lk_X3_addDebt_4 rfl (Nat.le_of_ble_eq_true rfl) (shV hg1) (ltV hg1) rfl dX3_addDebt_40 ?_
    refine g_aload_n C 0 dX3_addDebt_43 rfl rfl ?_
    refine g_getI C in_X3_addDebt_X3 (k := 1) lk_X3_addDebt_0 rfl (Nat.le_of_ble_eq_true rfl) (shV hg1) (ltV hg1) rfl dX3_addDebt_44 ?_
    refine g_iload C 4 dX3_addDebt_47 rfl ?_
    refine g_iast hf C (shV8 hg1).1 (shV8 hg1).2 dX3_addDebt_49 (fun hf => ?_)
    refine g_lets hf (fun σ5 hf => ?_)
    refine g_aload_n C 0 dX3_addDebt_50 rfl rfl ?_
    refine g_dup C dX3_addDebt_51 rfl ?_
    refine g_getI C in_X3_addDebt_X3 (k := 1) lk_X3_addDebt_0 rfl (Nat.le_of_ble_eq_true rfl) (shV hg1) (ltV hg1) rfl dX3_addDebt_52 ?_
    refine g_iconst C dX3_addDebt_55 ic_1 ?_
    refine g_iadd C dX3_addDebt_56 ?_
    refine g_putI C in_X3_addDebt_X3 (k := 1) lk_X3_addDebt_0 rfl (Nat.le_of_ble_eq_true rfl) (shV hg1) (ltV hg1) tyX3 tyX3_ok nmX3 rfl rfl rfl rfl dX3_addDebt_57 ?_
    refine g_lets hf (fun σ6 hf => ?_)
    exact g_retvW hf hret dX3_addDebt_60
/-! X3_clear -/
theorem in_X3_clear_X3 : ∀ q ∈ u_ws RX3 TX3 11, q ∈ wsX3_clear := by decide +kernel
theorem lk_X3_clear_0 : Cond.fieldLink RX3 9 "EmptyHouse$Village" "people" "I" ∈ wsX3_clear := by decide +kernel
theorem lk_X3_clear_1 : Cond.fieldLink RX3 15 "EmptyHouse$Village" "debts" "I" ∈ wsX3_clear := by decide +kernel
theorem lk_X3_clear_2 : Cond.fieldLink RX3 18 "EmptyHouse$Village" "law" "I" ∈ wsX3_clear := by decide +kernel
theorem ddX3_clear : yX3_clear.cls = RX3 ∧ yX3_clear.cls ≠ "java/lang/invoke/MethodHandle" ∧ yX3_clear.cls ≠ "java/lang/invoke/VarHandle" ∧ (parseMethodDescriptor yX3_clear.desc).map (fun d => d.parameters.length) = some 0 := by decide +kernel
set_option maxHeartbeats 4000000 in
set_option maxRecDepth 100000 in
theorem mX3_clear (l0 : Launch) (D0 : va_G) (K0 : Nat → ClassId) (h : Nat → Nat) (σ : pS) (v : Nat) {r : Unit} {u : pS} (hf : fX3_clear σ v = some (r, u)) : Met l0 yX3_clear wsX3_clear ({ frames := 0, cells := 0, slots := 0, locals := 0 } : Room) (va_Pc [.ref (h v)] (pIn wX D0 K0 h σ)) (va_Qv (fun u' => u' = u) (pOut wX D0 K0 h) (pA wX h)) 0 0 (pA wX h) := by
  refine p_metV (lv := [(0, .ref (h v))]) (by decide +kernel) rfl rfl (Nat.le_of_ble_eq_true rfl) rfl (fun X C hret => ?_)
  unfold fX3_clear at hf
  refine g_aload_n C 0 dX3_clear_0 rfl rfl ?_
  refine g_iconst C dX3_clear_1 ic_0 ?_
  obtain ⟨hg1, hf⟩ := g_guard hf
  refine g_putI C in_X3_clear_X3 (k := 0) lk_X3_clear_0 rfl (Nat.le_of_ble_eq_true rfl) (shV hg1) (ltV hg1) tyX3 tyX3_ok nmX3 rfl rfl rfl rfl dX3_clear_2 ?_
  refine g_lets hf (fun σ2 hf => ?_)
  refine g_aload_n C 0 dX3_clear_5 rfl rfl ?_
  refine g_iconst C dX3_clear_6 ic_0 ?_
  refine g_putI C in_X3_clear_X3 (k := 1) lk_X3_clear_1 rfl (Nat.le_of_ble_eq_true rfl) (shV hg1) (ltV hg1) tyX3 tyX3_ok nmX3 rfl rfl rfl rfl dX3_clear_7 ?_
  refine g_lets hf (fun σ3 hf => ?_)
  refine g_aload_n C 0 dX3_clear_10 rfl rfl ?_
  refine g_iconst C dX3_clear_11 ic_0 ?_
  refine g_putI C in_X3_clear_X3 (k := 2) lk_X3_clear_2 rfl (Nat.le_of_ble_eq_true rfl) (shV hg1) (ltV hg1) tyX3 tyX3_ok nmX3 rfl rfl rfl rfl dX3_clear_12 ?_
  refine g_lets hf (fun σ4 hf => ?_)
  exact g_retvW hf hret dX3_clear_15
/-! X3_clash -/
theorem in_X3_clash_X3 : ∀ q ∈ u_ws RX3 TX3 11, q ∈ wsX3_clash := by decide +kernel
theorem lk_X3_clash_0 : Cond.fieldLink RX3 34 "EmptyHouse$Village" "debtor" "[I" ∈ wsX3_clash := by decide +kernel
theorem lk_X3_clash_1 : Cond.fieldLink RX3 37 "EmptyHouse$Village" "creditor" "[I" ∈ wsX3_clash := by decide +kernel
theorem ddX3_clash : yX3_clash.cls = RX3 ∧ yX3_clash.cls ≠ "java/lang/invoke/MethodHandle" ∧ yX3_clash.cls ≠ "java/lang/invoke/VarHandle" ∧ (parseMethodDescriptor yX3_clash.desc).map (fun d => d.parameters.length) = some 2 := by decide +kernel
set_option maxHeartbeats 4000000 in
set_option maxRecDepth 100000 in
theorem mX3_clash (l0 : Launch) (D0 : va_G) (K0 : Nat → ClassId) (h : Nat → Nat) (σ : pS) (v : Nat) (a1 : Int32) (a2 : Int32) {r : Int32} (hf : fX3_clash σ v a1 a2 = some r) : Met l0 yX3_clash wsX3_clash ({ frames := 0, cells := 0, slots := 0, locals := 0 } : Room) (va_Pc [.ref (h v), .int a1, .int a2] (pIn wX D0 K0 h σ)) (va_Qi (fun r' u' => r' = r ∧ u' = σ) (pOut wX D0 K0 h) (pA wX h)) 0 0 (pA wX h) := by
  refine p_metZ (lv := [(0, .ref (h v)), (1, .int a1), (2, .int a2)]) (by decide +kernel) rfl rfl (Nat.le_of_ble_eq_true rfl) rfl (fun X C hret => ?_)
  unfold fX3_clash at hf
  refine g_aload_n C 0 dX3_clash_0 rfl rfl ?_
  obtain ⟨hg1, hf⟩ := g_guard hf
  refine g_getC (n := v + 5) C in_X3_clash_X3 (k := 7) lk_X3_clash_0 rfl (Nat.le_of_ble_eq_true rfl) (shV hg1) (ltV hg1) rfl dX3_clash_1 ?_
  refine g_iload_n C 1 dX3_clash_4 rfl rfl ?_
  refine g_iald hf C (shV5 hg1).1 (shV5 hg1).2 dX3_clash_5 (fun hf => ?_)
  refine g_aload_n C 0 dX3_clash_6 rfl rfl ?_
  refine g_getC (n := v + 5) C in_X3_clash_X3 (k := 7) lk_X3_clash_0 rfl (Nat.le_of_ble_eq_true rfl) (shV hg1) (ltV hg1) rfl dX3_clash_7 ?_
  refine g_iload_n C 2 dX3_clash_10 rfl rfl ?_
  refine g_iald hf C (shV5 hg1).1 (shV5 hg1).2 dX3_clash_11 (fun hf => ?_)
  refine g_icmp_eq (tgt := 30) hf C dX3_clash_12 (by decide) (fun hf => ?_) (fun hf => ?_)
  · refine g_iconst C dX3_clash_30 ic_1 ?_
    refine g_goto (tgt := 35) C dX3_clash_31 (by decide) ?_
    exact g_retz hf (by decide) hret dX3_clash_35
  · refine g_aload_n C 0 dX3_clash_15 rfl rfl ?_
    refine g_getC (n := v + 6) C in_X3_clash_X3 (k := 8) lk_X3_clash_1 rfl (Nat.le_of_ble_eq_true rfl) (shV hg1) (ltV hg1) rfl dX3_clash_16 ?_
    refine g_iload_n C 1 dX3_clash_19 rfl rfl ?_
    refine g_iald hf C (shV6 hg1).1 (shV6 hg1).2 dX3_clash_20 (fun hf => ?_)
    refine g_aload_n C 0 dX3_clash_21 rfl rfl ?_
    refine g_getC (n := v + 6) C in_X3_clash_X3 (k := 8) lk_X3_clash_1 rfl (Nat.le_of_ble_eq_true rfl) (shV hg1) (ltV hg1) rfl dX3_clash_22 ?_
    refine g_iload_n C 2 dX3_clash_25 rfl rfl ?_
    refine g_iald hf C (shV6 hg1).1 (shV6 hg1).2 dX3_clash_26 (fun hf => ?_)
    refine g_icmp_ne (tgt := 34) hf C dX3_clash_27 (by decide) (fun hf => ?_) (fun hf => ?_)
    · refine g_iconst C dX3_clash_34 ic_0 ?_
      exact g_retz hf (by decide) hret dX3_clash_35
    · refine g_iconst C dX3_clash_30 ic_1 ?_
      refine g_goto (tgt := 35) C dX3_clash_31 (by decide) ?_
      exact g_retz hf (by decide) hret dX3_clash_35
/-! J6_bitCount_0f7a4 -/
theorem lk_J6_bitCount_0f7a4_0 : Cond.constant RJ6 265 (1431655765) ∈ wsJ6_bitCount_0f7a4 := by decide +kernel
theorem lk_J6_bitCount_0f7a4_1 : Cond.constant RJ6 266 (858993459) ∈ wsJ6_bitCount_0f7a4 := by decide +kernel
theorem lk_J6_bitCount_0f7a4_2 : Cond.constant RJ6 267 (252645135) ∈ wsJ6_bitCount_0f7a4 := by decide +kernel
theorem ddJ6_bitCount_0f7a4 : yJ6_bitCount_0f7a4.cls ≠ "java/lang/invoke/MethodHandle" ∧ yJ6_bitCount_0f7a4.cls ≠ "java/lang/invoke/VarHandle" ∧ (parseMethodDescriptor yJ6_bitCount_0f7a4.desc).map (fun d => d.parameters.length) = some 1 := by decide +kernel
set_option maxHeartbeats 4000000 in
set_option maxRecDepth 100000 in
theorem mJ6_bitCount_0f7a4 (l0 : Launch) (D0 : va_G) (K0 : Nat → ClassId) (h : Nat → Nat) (σ : pS) (a1 : Int32) {r : Int32} (hf : fJ6_bitCount_0f7a4 a1 = some r) : Met l0 yJ6_bitCount_0f7a4 wsJ6_bitCount_0f7a4 ({ frames := 0, cells := 0, slots := 0, locals := 0 } : Room) (va_Pc [.int a1] (pIn wX D0 K0 h σ)) (va_Qi (fun r' u' => r' = r ∧ u' = σ) (pOut wX D0 K0 h) (pA wX h)) 0 0 (pA wX h) := by
  refine p_metI (lv := [(0, .int a1)]) (by decide +kernel) rfl rfl (Nat.le_of_ble_eq_true rfl) rfl (fun X C hret => ?_)
  unfold fJ6_bitCount_0f7a4 at hf
  refine g_iload_n C 0 dJ6_bitCount_0f7a4_0 rfl rfl ?_
  refine g_iload_n C 0 dJ6_bitCount_0f7a4_1 rfl rfl ?_
  refine g_iconst C dJ6_bitCount_0f7a4_2 ic_1 ?_
  refine g_iushr C dJ6_bitCount_0f7a4_3 ?_
  refine g_ldcw C lk_J6_bitCount_0f7a4_0 dJ6_bitCount_0f7a4_4 ?_
  refine g_iand C dJ6_bitCount_0f7a4_7 ?_
  refine g_isub C dJ6_bitCount_0f7a4_8 ?_
  refine g_leti hf (fun x1 hf => ?_)
  refine g_istore_n C [0] dJ6_bitCount_0f7a4_9 rfl (Nat.le_of_ble_eq_true rfl) rfl ?_
  refine g_iload_n C 0 dJ6_bitCount_0f7a4_10 rfl rfl ?_
  refine g_ldcw C lk_J6_bitCount_0f7a4_1 dJ6_bitCount_0f7a4_11 ?_
  refine g_iand C dJ6_bitCount_0f7a4_14 ?_
  refine g_iload_n C 0 dJ6_bitCount_0f7a4_15 rfl rfl ?_
  refine g_iconst C dJ6_bitCount_0f7a4_16 ic_2 ?_
  refine g_iushr C dJ6_bitCount_0f7a4_17 ?_
  refine g_ldcw C lk_J6_bitCount_0f7a4_1 dJ6_bitCount_0f7a4_18 ?_
  refine g_iand C dJ6_bitCount_0f7a4_21 ?_
  refine g_iadd C dJ6_bitCount_0f7a4_22 ?_
  refine g_leti hf (fun x2 hf => ?_)
  refine g_istore_n C [0] dJ6_bitCount_0f7a4_23 rfl (Nat.le_of_ble_eq_true rfl) rfl ?_
  refine g_iload_n C 0 dJ6_bitCount_0f7a4_24 rfl rfl ?_
  refine g_iload_n C 0 dJ6_bitCount_0f7a4_25 rfl rfl ?_
  refine g_iconst C dJ6_bitCount_0f7a4_26 ic_4 ?_
  refine g_iushr C dJ6_bitCount_0f7a4_27 ?_
  refine g_iadd C dJ6_bitCount_0f7a4_28 ?_
  refine g_ldcw C lk_J6_bitCount_0f7a4_2 dJ6_bitCount_0f7a4_29 ?_
  refine g_iand C dJ6_bitCount_0f7a4_32 ?_
  refine g_leti hf (fun x3 hf => ?_)
  refine g_istore_n C [0] dJ6_bitCount_0f7a4_33 rfl (Nat.le_of_ble_eq_true rfl) rfl ?_
  refine g_iload_n C 0 dJ6_bitCount_0f7a4_34 rfl rfl ?_
  refine g_iload_n C 0 dJ6_bitCount_0f7a4_35 rfl rfl ?_
  refine g_bipush C dJ6_bitCount_0f7a4_36 bp_8 ?_
  refine g_iushr C dJ6_bitCount_0f7a4_38 ?_
  refine g_iadd C dJ6_bitCount_0f7a4_39 ?_
  refine g_leti hf (fun x4 hf => ?_)
  refine g_istore_n C [0] dJ6_bitCount_0f7a4_40 rfl (Nat.le_of_ble_eq_true rfl) rfl ?_
  refine g_iload_n C 0 dJ6_bitCount_0f7a4_41 rfl rfl ?_
  refine g_iload_n C 0 dJ6_bitCount_0f7a4_42 rfl rfl ?_
  refine g_bipush C dJ6_bitCount_0f7a4_43 bp_16 ?_
  refine g_iushr C dJ6_bitCount_0f7a4_45 ?_
  refine g_iadd C dJ6_bitCount_0f7a4_46 ?_
  refine g_leti hf (fun x5 hf => ?_)
  refine g_istore_n C [0] dJ6_bitCount_0f7a4_47 rfl (Nat.le_of_ble_eq_true rfl) rfl ?_
  refine g_iload_n C 0 dJ6_bitCount_0f7a4_48 rfl rfl ?_
  refine g_bipush C dJ6_bitCount_0f7a4_49 bp_63 ?_
  refine g_iand C dJ6_bitCount_0f7a4_51 ?_
  exact g_reti hf hret dJ6_bitCount_0f7a4_52
/-! X3_peopleOut -/
theorem in_X3_peopleOut_X3 : ∀ q ∈ u_ws RX3 TX3 11, q ∈ wsX3_peopleOut := by decide +kernel
theorem lk_X3_peopleOut_0 : Cond.fieldLink RX3 9 "EmptyHouse$Village" "people" "I" ∈ wsX3_peopleOut := by decide +kernel
theorem lk_X3_peopleOut_1 : Cond.fieldLink RX3 28 "EmptyHouse$Village" "out" "[I" ∈ wsX3_peopleOut := by decide +kernel
theorem ddX3_peopleOut : yX3_peopleOut.cls = RX3 ∧ yX3_peopleOut.cls ≠ "java/lang/invoke/MethodHandle" ∧ yX3_peopleOut.cls ≠ "java/lang/invoke/VarHandle" ∧ (parseMethodDescriptor yX3_peopleOut.desc).map (fun d => d.parameters.length) = some 1 := by decide +kernel
set_option maxHeartbeats 4000000 in
set_option maxRecDepth 100000 in
theorem lX3_peopleOut_4_ok {h : Nat → Nat} {X : Cx} {l0 : Launch} {D0 : va_G} {K0 : Nat → ClassId} (σ : pS) (p0 : Nat) (p1 : Int32) {k33 : Int32 → Option Int32} {r : Int32} (C : Cok wX h X l0 ({ frames := 0, cells := 0, slots := 0, locals := 0 } : Room) D0 K0 cX3_peopleOut 4 RX3 wsX3_peopleOut) (hret : ∀ (pc : Nat) (lv' : List (Nat × Value)), decode cX3_peopleOut pc = .ok (.ireturn, 1) → G wX h X pc lv' [.int r] σ) (hk33 : ∀ (z2 : Int32), k33 z2 = some r → G wX h X 33 [(2, .int z2)] [] σ) : ∀ (F : Nat) (v2 : Int32) (v3 : Int32), lX3_peopleOut_4 σ p0 p1 k33 F v2 v3 = some r → G wX h X 4 [(0, .ref (h p0)), (1, .int p1), (2, .int v2), (3, .int v3)] [] σ := by
  intro F
  induction F with
  | zero => intro v2 v3 hf; exact absurd hf (by simp [lX3_peopleOut_4])
  | succ F ih =>
    intro v2 v3 hf
    rw [lX3_peopleOut_4.eq_2] at hf
    refine g_iload_n C 3 dX3_peopleOut_4 rfl rfl ?_
    refine g_aload_n C 0 dX3_peopleOut_5 rfl rfl ?_
    obtain ⟨hg1, hf⟩ := g_guard hf
    refine g_getI C in_X3_peopleOut_X3 (k := 0) lk_X3_peopleOut_0 rfl (Nat.le_of_ble_eq_true rfl) (shV hg1) (ltV hg1) rfl dX3_peopleOut_6 ?_
    refine g_icmp_ge (tgt := 33) hf C dX3_peopleOut_9 (by decide) (fun hf => ?_) (fun hf => ?_)
    · refine g_lv [2] rfl ?_
      exact hk33 v2 hf
    · refine g_iload_n C 2 dX3_peopleOut_12 rfl rfl ?_
      refine g_aload_n C 0 dX3_peopleOut_13 rfl rfl ?_
      refine g_getC (n := p0 + 3) C in_X3_peopleOut_X3 (k := 5) lk_X3_peopleOut_1 rfl (Nat.le_of_ble_eq_true rfl) (shV hg1) (ltV hg1) rfl dX3_peopleOut_14 ?_
      refine g_iload_n C 3 dX3_peopleOut_17 rfl rfl ?_
      refine g_iald hf C (shV3 hg1).1 (shV3 hg1).2 dX3_peopleOut_18 (fun hf => ?_)
      refine g_iload_n C 1 dX3_peopleOut_19 rfl rfl ?_
      refine g_ishr C dX3_peopleOut_20 ?_
      refine g_iconst C dX3_peopleOut_21 ic_1 ?_
      refine g_iand C dX3_peopleOut_22 ?_
      refine g_iload_n C 3 dX3_peopleOut_23 rfl rfl ?_
      refine g_ishl C dX3_peopleOut_24 ?_
      refine g_ior C dX3_peopleOut_25 ?_
      refine g_leti hf (fun x2 hf => ?_)
      refine g_istore_n C [1, 2, 0, 3] dX3_peopleOut_26 rfl (Nat.le_of_ble_eq_true rfl) rfl ?_
      refine g_iinc C 3 [1, 2, 3, 0] dX3_peopleOut_27 rfl ic_1 (Nat.le_of_ble_eq_true rfl) rfl ?_
      refine g_goto (tgt := 4) C dX3_peopleOut_30 (by decide) ?_
      exact ih x2 (v3 + (1 : Int32)) hf
set_option maxHeartbeats 4000000 in
set_option maxRecDepth 100000 in
theorem mX3_peopleOut (l0 : Launch) (D0 : va_G) (K0 : Nat → ClassId) (h : Nat → Nat) (σ : pS) (v : Nat) (a1 : Int32) {r : Int32} (hf : fX3_peopleOut σ v a1 = some r) : Met l0 yX3_peopleOut wsX3_peopleOut ({ frames := 0, cells := 0, slots := 0, locals := 0 } : Room) (va_Pc [.ref (h v), .int a1] (pIn wX D0 K0 h σ)) (va_Qi (fun r' u' => r' = r ∧ u' = σ) (pOut wX D0 K0 h) (pA wX h)) 0 0 (pA wX h) := by
  refine p_metI (lv := [(0, .ref (h v)), (1, .int a1)]) (by decide +kernel) rfl rfl (Nat.le_of_ble_eq_true rfl) rfl (fun X C hret => ?_)
  unfold fX3_peopleOut at hf
  refine g_iconst C dX3_peopleOut_0 ic_0 ?_
  refine g_istore_n C [1, 2, 0] dX3_peopleOut_1 rfl (Nat.le_of_ble_eq_true rfl) rfl ?_
  refine g_iconst C dX3_peopleOut_2 ic_0 ?_
  refine g_istore_n C [1, 2, 3, 0] dX3_peopleOut_3 rfl (Nat.le_of_ble_eq_true rfl) rfl ?_
  refine lX3_peopleOut_4_ok σ v a1 C hret (fun y3 hf => ?_) FU (0 : Int32) (0 : Int32) hf
  refine g_iload_n C 0 dX3_peopleOut_33 rfl rfl ?_
  exact g_reti hf hret dX3_peopleOut_34
/-! X3_dogHours -/
theorem in_X3_dogHours_X3 : ∀ q ∈ u_ws RX3 TX3 11, q ∈ wsX3_dogHours := by decide +kernel
theorem lk_X3_dogHours_0 : Cond.fieldLink RX3 21 "EmptyHouse$Village" "kind" "[I" ∈ wsX3_dogHours := by decide +kernel
theorem ddX3_dogHours : yX3_dogHours.cls = RX3 ∧ yX3_dogHours.cls ≠ "java/lang/invoke/MethodHandle" ∧ yX3_dogHours.cls ≠ "java/lang/invoke/VarHandle" ∧ (parseMethodDescriptor yX3_dogHours.desc).map (fun d => d.parameters.length) = some 1 := by decide +kernel
set_option maxHeartbeats 4000000 in
set_option maxRecDepth 100000 in
theorem mX3_dogHours (l0 : Launch) (D0 : va_G) (K0 : Nat → ClassId) (h : Nat → Nat) (σ : pS) (v : Nat) (a1 : Int32) {r : Int32} (hf : fX3_dogHours σ v a1 = some r) : Met l0 yX3_dogHours wsX3_dogHours ({ frames := 0, cells := 0, slots := 0, locals := 0 } : Room) (va_Pc [.ref (h v), .int a1] (pIn wX D0 K0 h σ)) (va_Qi (fun r' u' => r' = r ∧ u' = σ) (pOut wX D0 K0 h) (pA wX h)) 0 0 (pA wX h) := by
  refine p_metI (lv := [(0, .ref (h v)), (1, .int a1)]) (by decide +kernel) rfl rfl (Nat.le_of_ble_eq_true rfl) rfl (fun X C hret => ?_)
  unfold fX3_dogHours at hf
  refine g_aload_n C 0 dX3_dogHours_0 rfl rfl ?_
  obtain ⟨hg1, hf⟩ := g_guard hf
  refine g_getC (n := v + 1) C in_X3_dogHours_X3 (k := 3) lk_X3_dogHours_0 rfl (Nat.le_of_ble_eq_true rfl) (shV hg1) (ltV hg1) rfl dX3_dogHours_1 ?_
  refine g_iload_n C 1 dX3_dogHours_4 rfl rfl ?_
  refine g_iald hf C (shV1 hg1).1 (shV1 hg1).2 dX3_dogHours_5 (fun hf => ?_)
  refine g_iconst C dX3_dogHours_6 ic_5 ?_
  refine g_icmp_ne (tgt := 16) hf C dX3_dogHours_7 (by decide) (fun hf => ?_) (fun hf => ?_)
  · refine g_aload_n C 0 dX3_dogHours_16 rfl rfl ?_
    refine g_getC (n := v + 1) C in_X3_dogHours_X3 (k := 3) lk_X3_dogHours_0 rfl (Nat.le_of_ble_eq_true rfl) (shV hg1) (ltV hg1) rfl dX3_dogHours_17 ?_
    refine g_iload_n C 1 dX3_dogHours_20 rfl rfl ?_
    refine g_iald hf C (shV1 hg1).1 (shV1 hg1).2 dX3_dogHours_21 (fun hf => ?_)
    refine g_iconst C dX3_dogHours_22 ic_1 ?_
    refine g_icmp_ne (tgt := 32) hf C dX3_dogHours_23 (by decide) (fun hf => ?_) (fun hf => ?_)
    · refine g_iconst C dX3_dogHours_32 ic_0 ?_
      exact g_reti hf hret dX3_dogHours_33
    · refine g_sipush C dX3_dogHours_26 sp_1365 ?_
      refine g_goto (tgt := 33) C dX3_dogHours_29 (by decide) ?_
      exact g_reti hf hret dX3_dogHours_33
  · refine g_sipush C dX3_dogHours_10 sp_4095 ?_
    refine g_goto (tgt := 33) C dX3_dogHours_13 (by decide) ?_
    exact g_reti hf hret dX3_dogHours_33
/-! X3_holds -/
theorem ddX3_holds : yX3_holds.cls ≠ "java/lang/invoke/MethodHandle" ∧ yX3_holds.cls ≠ "java/lang/invoke/VarHandle" ∧ (parseMethodDescriptor yX3_holds.desc).map (fun d => d.parameters.length) = some 2 := by decide +kernel
set_option maxHeartbeats 4000000 in
set_option maxRecDepth 100000 in
theorem mX3_holds (l0 : Launch) (D0 : va_G) (K0 : Nat → ClassId) (h : Nat → Nat) (σ : pS) (a1 : Int32) (a2 : Int32) {r : Int32} (hf : fX3_holds a1 a2 = some r) : Met l0 yX3_holds wsX3_holds ({ frames := 0, cells := 0, slots := 0, locals := 0 } : Room) (va_Pc [.int a1, .int a2] (pIn wX D0 K0 h σ)) (va_Qi (fun r' u' => r' = r ∧ u' = σ) (pOut wX D0 K0 h) (pA wX h)) 0 0 (pA wX h) := by
  refine p_metZ (lv := [(0, .int a1), (1, .int a2)]) (by decide +kernel) rfl rfl (Nat.le_of_ble_eq_true rfl) rfl (fun X C hret => ?_)
  unfold fX3_holds at hf
  refine g_iload_n C 0 dX3_holds_0 rfl rfl ?_
  refine g_iload_n C 1 dX3_holds_1 rfl rfl ?_
  refine g_ishr C dX3_holds_2 ?_
  refine g_iconst C dX3_holds_3 ic_1 ?_
  refine g_iand C dX3_holds_4 ?_
  refine g_iconst C dX3_holds_5 ic_1 ?_
  refine g_icmp_ne (tgt := 13) hf C dX3_holds_6 (by decide) (fun hf => ?_) (fun hf => ?_)
  · refine g_iconst C dX3_holds_13 ic_0 ?_
    exact g_retz hf (by decide) hret dX3_holds_14
  · refine g_iconst C dX3_holds_9 ic_1 ?_
    refine g_goto (tgt := 14) C dX3_holds_10 (by decide) ?_
    exact g_retz hf (by decide) hret dX3_holds_14
/-! X3_isLeft -/
theorem in_X3_isLeft_X3 : ∀ q ∈ u_ws RX3 TX3 11, q ∈ wsX3_isLeft := by decide +kernel
theorem lk_X3_isLeft_0 : Cond.fieldLink RX3 21 "EmptyHouse$Village" "kind" "[I" ∈ wsX3_isLeft := by decide +kernel
theorem lk_X3_isLeft_1 : Cond.fieldLink RX3 25 "EmptyHouse$Village" "mate" "[I" ∈ wsX3_isLeft := by decide +kernel
theorem ddX3_isLeft : yX3_isLeft.cls = RX3 ∧ yX3_isLeft.cls ≠ "java/lang/invoke/MethodHandle" ∧ yX3_isLeft.cls ≠ "java/lang/invoke/VarHandle" ∧ (parseMethodDescriptor yX3_isLeft.desc).map (fun d => d.parameters.length) = some 2 := by decide +kernel
set_option maxHeartbeats 4000000 in
set_option maxRecDepth 100000 in
theorem mX3_isLeft (l0 : Launch) (D0 : va_G) (K0 : Nat → ClassId) (h : Nat → Nat) (σ : pS) (v : Nat) (a1 : Int32) (a2 : Int32) {r : Int32} (hf : fX3_isLeft σ v a1 a2 = some r) : Met l0 yX3_isLeft wsX3_isLeft ({ frames := 1, cells := 0, slots := 0, locals := 21 } : Room) (va_Pc [.ref (h v), .int a1, .int a2] (pIn wX D0 K0 h σ)) (va_Qi (fun r' u' => r' = r ∧ u' = σ) (pOut wX D0 K0 h) (pA wX h)) 0 0 (pA wX h) := by
  refine p_metZ (lv := [(0, .ref (h v)), (1, .int a1), (2, .int a2)]) (by decide +kernel) rfl rfl (Nat.le_of_ble_eq_true rfl) rfl (fun X C hret => ?_)
  unfold fX3_isLeft at hf
  refine g_aload_n C 0 dX3_isLeft_0 rfl rfl ?_
  obtain ⟨hg1, hf⟩ := g_guard hf
  refine g_getC (n := v + 1) C in_X3_isLeft_X3 (k := 3) lk_X3_isLeft_0 rfl (Nat.le_of_ble_eq_true rfl) (shV hg1) (ltV hg1) rfl dX3_isLeft_1 ?_
  refine g_iload_n C 1 dX3_isLeft_4 rfl rfl ?_
  refine g_iald hf C (shV1 hg1).1 (shV1 hg1).2 dX3_isLeft_5 (fun hf => ?_)
  refine g_swc hf (fun hx2 hf => ?_) (fun hn3 hf => ?_)
  · refine g_swin (tgt := 32) hx2 C dX3_isLeft_6 (by decide) (by decide) rfl (by decide) ?_
    refine g_iconst C dX3_isLeft_32 ic_0 ?_
    exact g_retz hf (by decide) hret dX3_isLeft_33
  · refine g_swc hf (fun hx8 hf => ?_) (fun hn9 hf => ?_)
    · refine g_swin (tgt := 34) hx8 C dX3_isLeft_6 (by decide) (by decide) rfl (by decide) ?_
      refine g_iload_n C 2 dX3_isLeft_34 rfl rfl ?_
      refine g_iload_n C 1 dX3_isLeft_35 rfl rfl ?_
      obtain ⟨r5, hc4, hf⟩ := g_bind hf
      refine g_callSi C (mX3_holds l0 D0 K0 h σ a2 a1 hc4) gX3_isLeft_X3_holds rfl rfl rfl ddX3_holds ⟨(Nat.le_of_ble_eq_true rfl), (Nat.le_of_ble_eq_true rfl)⟩ rfl rfl (Nat.le_of_ble_eq_true rfl) dX3_isLeft_36 ?_
      refine g_if_eq (tgt := 59) hf C dX3_isLeft_39 (by decide) (fun hf => ?_) (fun hf => ?_)
      · refine g_iconst C dX3_isLeft_59 ic_0 ?_
        exact g_retz hf (by decide) hret dX3_isLeft_60
      · refine g_iload_n C 2 dX3_isLeft_42 rfl rfl ?_
        refine g_aload_n C 0 dX3_isLeft_43 rfl rfl ?_
        refine g_getC (n := v + 2) C in_X3_isLeft_X3 (k := 4) lk_X3_isLeft_1 rfl (Nat.le_of_ble_eq_true rfl) (shV hg1) (ltV hg1) rfl dX3_isLeft_44 ?_
        refine g_iload_n C 1 dX3_isLeft_47 rfl rfl ?_
        refine g_iald hf C (shV2 hg1).1 (shV2 hg1).2 dX3_isLeft_48 (fun hf => ?_)
        obtain ⟨r7, hc6, hf⟩ := g_bind hf
        refine g_callSi C (mX3_holds l0 D0 K0 h σ a2 (pI σ (v + 2) (a1).toNatClampNeg) hc6) gX3_isLeft_X3_holds rfl rfl rfl ddX3_holds ⟨(Nat.le_of_ble_eq_true rfl), (Nat.le_of_ble_eq_true rfl)⟩ rfl rfl (Nat.le_of_ble_eq_true rfl) dX3_isLeft_49 ?_
        refine g_if_eq (tgt := 59) hf C dX3_isLeft_52 (by decide) (fun hf => ?_) (fun hf => ?_)
        · refine g_iconst C dX3_isLeft_59 ic_0 ?_
          exact g_retz hf (by decide) hret dX3_isLeft_60
        · refine g_iconst C dX3_isLeft_55 ic_1 ?_
          refine g_goto (tgt := 60) C dX3_isLeft_56 (by decide) ?_
          exact g_retz hf (by decide) hret dX3_isLeft_60
    · refine g_swc hf (fun hx14 hf => ?_) (fun hn15 hf => ?_)
      · refine g_swin (tgt := 61) hx14 C dX3_isLeft_6 (by decide) (by decide) rfl (by decide) ?_
        refine g_iload_n C 2 dX3_isLeft_61 rfl rfl ?_
        refine g_iload_n C 1 dX3_isLeft_62 rfl rfl ?_
        obtain ⟨r11, hc10, hf⟩ := g_bind hf
        refine g_callSi C (mX3_holds l0 D0 K0 h σ a2 a1 hc10) gX3_isLeft_X3_holds rfl rfl rfl ddX3_holds ⟨(Nat.le_of_ble_eq_true rfl), (Nat.le_of_ble_eq_true rfl)⟩ rfl rfl (Nat.le_of_ble_eq_true rfl) dX3_isLeft_63 ?_
        refine g_if_ne (tgt := 82) hf C dX3_isLeft_66 (by decide) (fun hf => ?_) (fun hf => ?_)
        · refine g_iconst C dX3_isLeft_82 ic_1 ?_
          refine g_goto (tgt := 87) C dX3_isLeft_83 (by decide) ?_
          exact g_retz hf (by decide) hret dX3_isLeft_87
        · refine g_iload_n C 2 dX3_isLeft_69 rfl rfl ?_
          refine g_aload_n C 0 dX3_isLeft_70 rfl rfl ?_
          refine g_getC (n := v + 2) C in_X3_isLeft_X3 (k := 4) lk_X3_isLeft_1 rfl (Nat.le_of_ble_eq_true rfl) (shV hg1) (ltV hg1) rfl dX3_isLeft_71 ?_
          refine g_iload_n C 1 dX3_isLeft_74 rfl rfl ?_
          refine g_iald hf C (shV2 hg1).1 (shV2 hg1).2 dX3_isLeft_75 (fun hf => ?_)
          obtain ⟨r13, hc12, hf⟩ := g_bind hf
          refine g_callSi C (mX3_holds l0 D0 K0 h σ a2 (pI σ (v + 2) (a1).toNatClampNeg) hc12) gX3_isLeft_X3_holds rfl rfl rfl ddX3_holds ⟨(Nat.le_of_ble_eq_true rfl), (Nat.le_of_ble_eq_true rfl)⟩ rfl rfl (Nat.le_of_ble_eq_true rfl) dX3_isLeft_76 ?_
          refine g_if_eq (tgt := 86) hf C dX3_isLeft_79 (by decide) (fun hf => ?_) (fun hf => ?_)
          · refine g_iconst C dX3_isLeft_86 ic_0 ?_
            exact g_retz hf (by decide) hret dX3_isLeft_87
          · refine g_iconst C dX3_isLeft_82 ic_1 ?_
            refine g_goto (tgt := 87) C dX3_isLeft_83 (by decide) ?_
            exact g_retz hf (by decide) hret dX3_isLeft_87
      · refine g_swout (tgt := 88) C dX3_isLeft_6 (by have := lv_neT (a := 2) hn3 (by decide); have := lv_neT (a := 3) hn9 (by decide); have := lv_neT (a := 4) hn15 (by decide); omega) (by decide) ?_
        refine g_iload_n C 2 dX3_isLeft_88 rfl rfl ?_
        refine g_iload_n C 1 dX3_isLeft_89 rfl rfl ?_
        obtain ⟨r17, hc16, hf⟩ := g_bind hf
        refine g_callSi C (mX3_holds l0 D0 K0 h σ a2 a1 hc16) gX3_isLeft_X3_holds rfl rfl rfl ddX3_holds ⟨(Nat.le_of_ble_eq_true rfl), (Nat.le_of_ble_eq_true rfl)⟩ rfl rfl (Nat.le_of_ble_eq_true rfl) dX3_isLeft_90 ?_
        exact g_retzG hf hret dX3_isLeft_93
/-! X3_countsAsEmpty -/
theorem in_X3_countsAsEmpty_X3 : ∀ q ∈ u_ws RX3 TX3 11, q ∈ wsX3_countsAsEmpty := by decide +kernel
theorem lk_X3_countsAsEmpty_0 : Cond.fieldLink RX3 18 "EmptyHouse$Village" "law" "I" ∈ wsX3_countsAsEmpty := by decide +kernel
theorem ddX3_countsAsEmpty : yX3_countsAsEmpty.cls = RX3 ∧ yX3_countsAsEmpty.cls ≠ "java/lang/invoke/MethodHandle" ∧ yX3_countsAsEmpty.cls ≠ "java/lang/invoke/VarHandle" ∧ (parseMethodDescriptor yX3_countsAsEmpty.desc).map (fun d => d.parameters.length) = some 3 := by decide +kernel
set_option maxHeartbeats 4000000 in
set_option maxRecDepth 100000 in
theorem mX3_countsAsEmpty (l0 : Launch) (D0 : va_G) (K0 : Nat → ClassId) (h : Nat → Nat) (σ : pS) (v : Nat) (a1 : Int32) (a2 : Int32) (a3 : Int32) {r : Int32} (hf : fX3_countsAsEmpty σ v a1 a2 a3 = some r) : Met l0 yX3_countsAsEmpty wsX3_countsAsEmpty ({ frames := 2, cells := 0, slots := 0, locals := 43 } : Room) (va_Pc [.ref (h v), .int a1, .int a2, .int a3] (pIn wX D0 K0 h σ)) (va_Qi (fun r' u' => r' = r ∧ u' = σ) (pOut wX D0 K0 h) (pA wX h)) 0 0 (pA wX h) := by
  refine p_metZ (lv := [(0, .ref (h v)), (1, .int a1), (2, .int a2), (3, .int a3)]) (by decide +kernel) rfl rfl (Nat.le_of_ble_eq_true rfl) rfl (fun X C hret => ?_)
  unfold fX3_countsAsEmpty at hf
  refine g_aload_n C 0 dX3_countsAsEmpty_0 rfl rfl ?_
  refine g_iload_n C 1 dX3_countsAsEmpty_1 rfl rfl ?_
  refine g_iload_n C 3 dX3_countsAsEmpty_2 rfl rfl ?_
  obtain ⟨hg1, hf⟩ := g_guard hf
  obtain ⟨r3, hc2, hf⟩ := g_bind hf
  refine g_callVi C (mX3_isLeft l0 D0 K0 h σ v a1 a3 hc2) gX3_countsAsEmpty_X3_isLeft rfl rfl rfl ddX3_isLeft ⟨(Nat.le_of_ble_eq_true rfl), (Nat.le_of_ble_eq_true rfl)⟩ (shV hg1) (ltV hg1) rfl rfl rfl (Nat.le_of_ble_eq_true rfl) dX3_countsAsEmpty_3 ?_
  refine g_istore C [1, 2, 3, 0] dX3_countsAsEmpty_6 (Nat.le_of_ble_eq_true rfl) rfl ?_
  refine g_aload_n C 0 dX3_countsAsEmpty_8 rfl rfl ?_
  refine g_getI C in_X3_countsAsEmpty_X3 (k := 2) lk_X3_countsAsEmpty_0 rfl (Nat.le_of_ble_eq_true rfl) (shV hg1) (ltV hg1) rfl dX3_countsAsEmpty_9 ?_
  refine g_swc hf (fun hx8 hf => ?_) (fun hn9 hf => ?_)
  · refine g_swin (tgt := 40) hx8 C dX3_countsAsEmpty_12 (by decide) (by decide) rfl (by decide) ?_
    refine g_iload C 3 dX3_countsAsEmpty_40 rfl ?_
    refine g_if_eq (tgt := 61) hf C dX3_countsAsEmpty_42 (by decide) (fun hf => ?_) (fun hf => ?_)
    · refine g_iconst C dX3_countsAsEmpty_61 ic_0 ?_
      exact g_retz hf (by decide) hret dX3_countsAsEmpty_62
    · refine g_aload_n C 0 dX3_countsAsEmpty_45 rfl rfl ?_
      refine g_iload_n C 1 dX3_countsAsEmpty_46 rfl rfl ?_
      obtain ⟨r5, hc4, hf⟩ := g_bind hf
      refine g_callVi C (mX3_dogHours l0 D0 K0 h σ v a1 hc4) gX3_countsAsEmpty_X3_dogHours rfl rfl rfl ddX3_dogHours ⟨(Nat.le_of_ble_eq_true rfl), (Nat.le_of_ble_eq_true rfl)⟩ (shV hg1) (ltV hg1) rfl rfl rfl (Nat.le_of_ble_eq_true rfl) dX3_countsAsEmpty_47 ?_
      refine g_iload_n C 2 dX3_countsAsEmpty_50 rfl rfl ?_
      obtain ⟨r7, hc6, hf⟩ := g_bind hf
      refine g_callSi C (mX3_holds l0 D0 K0 h σ r5 a2 hc6) gX3_countsAsEmpty_X3_holds rfl rfl rfl ddX3_holds ⟨(Nat.le_of_ble_eq_true rfl), (Nat.le_of_ble_eq_true rfl)⟩ rfl rfl (Nat.le_of_ble_eq_true rfl) dX3_countsAsEmpty_51 ?_
      refine g_if_ne (tgt := 61) hf C dX3_countsAsEmpty_54 (by decide) (fun hf => ?_) (fun hf => ?_)
      · refine g_iconst C dX3_countsAsEmpty_61 ic_0 ?_
        exact g_retz hf (by decide) hret dX3_countsAsEmpty_62
      · refine g_iconst C dX3_countsAsEmpty_57 ic_1 ?_
        refine g_goto (tgt := 62) C dX3_countsAsEmpty_58 (by decide) ?_
        exact g_retz hf (by decide) hret dX3_countsAsEmpty_62
  · refine g_swc hf (fun hx10 hf => ?_) (fun hn11 hf => ?_)
    · refine g_swin (tgt := 63) hx10 C dX3_countsAsEmpty_12 (by decide) (by decide) rfl (by decide) ?_
      refine g_iload C 3 dX3_countsAsEmpty_63 rfl ?_
      refine g_if_eq (tgt := 78) hf C dX3_countsAsEmpty_65 (by decide) (fun hf => ?_) (fun hf => ?_)
      · refine g_iconst C dX3_countsAsEmpty_78 ic_0 ?_
        exact g_retz hf (by decide) hret dX3_countsAsEmpty_79
      · refine g_iload_n C 2 dX3_countsAsEmpty_68 rfl rfl ?_
        refine g_bipush C dX3_countsAsEmpty_69 bp_8 ?_
        refine g_icmp_lt (tgt := 78) hf C dX3_countsAsEmpty_71 (by decide) (fun hf => ?_) (fun hf => ?_)
        · refine g_iconst C dX3_countsAsEmpty_78 ic_0 ?_
          exact g_retz hf (by decide) hret dX3_countsAsEmpty_79
        · refine g_iconst C dX3_countsAsEmpty_74 ic_1 ?_
          refine g_goto (tgt := 79) C dX3_countsAsEmpty_75 (by decide) ?_
          exact g_retz hf (by decide) hret dX3_countsAsEmpty_79
    · refine g_swc hf (fun hx12 hf => ?_) (fun hn13 hf => ?_)
      · refine g_swin (tgt := 80) hx12 C dX3_countsAsEmpty_12 (by decide) (by decide) rfl (by decide) ?_
        refine g_iload C 3 dX3_countsAsEmpty_80 rfl ?_
        refine g_if_ne (tgt := 89) hf C dX3_countsAsEmpty_82 (by decide) (fun hf => ?_) (fun hf => ?_)
        · refine g_iconst C dX3_countsAsEmpty_89 ic_0 ?_
          exact g_retz hf (by decide) hret dX3_countsAsEmpty_90
        · refine g_iconst C dX3_countsAsEmpty_85 ic_1 ?_
          refine g_goto (tgt := 90) C dX3_countsAsEmpty_86 (by decide) ?_
          exact g_retz hf (by decide) hret dX3_countsAsEmpty_90
      · refine g_swout (tgt := 91) C dX3_countsAsEmpty_12 (by have := lv_neT (a := 1) hn9 (by decide); have := lv_neT (a := 2) hn11 (by decide); have := lv_neT (a := 3) hn13 (by decide); omega) (by decide) ?_
        refine g_iload C 3 dX3_countsAsEmpty_91 rfl ?_
        exact g_retzG hf hret dX3_countsAsEmpty_93
/-! X3_isPayable -/
theorem in_X3_isPayable_X3 : ∀ q ∈ u_ws RX3 TX3 11, q ∈ wsX3_isPayable := by decide +kernel
theorem lk_X3_isPayable_0 : Cond.fieldLink RX3 34 "EmptyHouse$Village" "debtor" "[I" ∈ wsX3_isPayable := by decide +kernel
theorem lk_X3_isPayable_1 : Cond.fieldLink RX3 37 "EmptyHouse$Village" "creditor" "[I" ∈ wsX3_isPayable := by decide +kernel
theorem ddX3_isPayable : yX3_isPayable.cls = RX3 ∧ yX3_isPayable.cls ≠ "java/lang/invoke/MethodHandle" ∧ yX3_isPayable.cls ≠ "java/lang/invoke/VarHandle" ∧ (parseMethodDescriptor yX3_isPayable.desc).map (fun d => d.parameters.length) = some 3 := by decide +kernel
set_option maxHeartbeats 4000000 in
set_option maxRecDepth 100000 in
theorem mX3_isPayable (l0 : Launch) (D0 : va_G) (K0 : Nat → ClassId) (h : Nat → Nat) (σ : pS) (v : Nat) (a1 : Int32) (a2 : Int32) (a3 : Int32) {r : Int32} (hf : fX3_isPayable σ v a1 a2 a3 = some r) : Met l0 yX3_isPayable wsX3_isPayable ({ frames := 3, cells := 0, slots := 0, locals := 67 } : Room) (va_Pc [.ref (h v), .int a1, .int a2, .int a3] (pIn wX D0 K0 h σ)) (va_Qi (fun r' u' => r' = r ∧ u' = σ) (pOut wX D0 K0 h) (pA wX h)) 0 0 (pA wX h) := by
  refine p_metZ (lv := [(0, .ref (h v)), (1, .int a1), (2, .int a2), (3, .int a3)]) (by decide +kernel) rfl rfl (Nat.le_of_ble_eq_true rfl) rfl (fun X C hret => ?_)
  unfold fX3_isPayable at hf
  refine g_iload_n C 3 dX3_isPayable_0 rfl rfl ?_
  refine g_aload_n C 0 dX3_isPayable_1 rfl rfl ?_
  obtain ⟨hg1, hf⟩ := g_guard hf
  refine g_getC (n := v + 5) C in_X3_isPayable_X3 (k := 7) lk_X3_isPayable_0 rfl (Nat.le_of_ble_eq_true rfl) (shV hg1) (ltV hg1) rfl dX3_isPayable_2 ?_
  refine g_iload_n C 1 dX3_isPayable_5 rfl rfl ?_
  refine g_iald hf C (shV5 hg1).1 (shV5 hg1).2 dX3_isPayable_6 (fun hf => ?_)
  obtain ⟨r3, hc2, hf⟩ := g_bind hf
  refine g_callSi C (mX3_holds l0 D0 K0 h σ a3 (pI σ (v + 5) (a1).toNatClampNeg) hc2) gX3_isPayable_X3_holds rfl rfl rfl ddX3_holds ⟨(Nat.le_of_ble_eq_true rfl), (Nat.le_of_ble_eq_true rfl)⟩ rfl rfl (Nat.le_of_ble_eq_true rfl) dX3_isPayable_7 ?_
  refine g_if_eq (tgt := 32) hf C dX3_isPayable_10 (by decide) (fun hf => ?_) (fun hf => ?_)
  · refine g_iconst C dX3_isPayable_32 ic_0 ?_
    exact g_retz hf (by decide) hret dX3_isPayable_33
  · refine g_aload_n C 0 dX3_isPayable_13 rfl rfl ?_
    refine g_aload_n C 0 dX3_isPayable_14 rfl rfl ?_
    refine g_getC (n := v + 6) C in_X3_isPayable_X3 (k := 8) lk_X3_isPayable_1 rfl (Nat.le_of_ble_eq_true rfl) (shV hg1) (ltV hg1) rfl dX3_isPayable_15 ?_
    refine g_iload_n C 1 dX3_isPayable_18 rfl rfl ?_
    refine g_iald hf C (shV6 hg1).1 (shV6 hg1).2 dX3_isPayable_19 (fun hf => ?_)
    refine g_iload_n C 2 dX3_isPayable_20 rfl rfl ?_
    refine g_iload_n C 3 dX3_isPayable_21 rfl rfl ?_
    obtain ⟨r5, hc4, hf⟩ := g_bind hf
    refine g_callVi C (mX3_countsAsEmpty l0 D0 K0 h σ v (pI σ (v + 6) (a1).toNatClampNeg) a2 a3 hc4) gX3_isPayable_X3_countsAsEmpty rfl rfl rfl ddX3_countsAsEmpty ⟨(Nat.le_of_ble_eq_true rfl), (Nat.le_of_ble_eq_true rfl)⟩ (shV hg1) (ltV hg1) rfl rfl rfl (Nat.le_of_ble_eq_true rfl) dX3_isPayable_22 ?_
    refine g_if_eq (tgt := 32) hf C dX3_isPayable_25 (by decide) (fun hf => ?_) (fun hf => ?_)
    · refine g_iconst C dX3_isPayable_32 ic_0 ?_
      exact g_retz hf (by decide) hret dX3_isPayable_33
    · refine g_iconst C dX3_isPayable_28 ic_1 ?_
      refine g_goto (tgt := 33) C dX3_isPayable_29 (by decide) ?_
      exact g_retz hf (by decide) hret dX3_isPayable_33
/-! X3_payableDebts -/
theorem in_X3_payableDebts_X3 : ∀ q ∈ u_ws RX3 TX3 11, q ∈ wsX3_payableDebts := by decide +kernel
theorem lk_X3_payableDebts_0 : Cond.fieldLink RX3 15 "EmptyHouse$Village" "debts" "I" ∈ wsX3_payableDebts := by decide +kernel
theorem ddX3_payableDebts : yX3_payableDebts.cls = RX3 ∧ yX3_payableDebts.cls ≠ "java/lang/invoke/MethodHandle" ∧ yX3_payableDebts.cls ≠ "java/lang/invoke/VarHandle" ∧ (parseMethodDescriptor yX3_payableDebts.desc).map (fun d => d.parameters.length) = some 2 := by decide +kernel
set_option maxHeartbeats 4000000 in
set_option maxRecDepth 100000 in
theorem lX3_payableDebts_5_ok {h : Nat → Nat} {X : Cx} {l0 : Launch} {D0 : va_G} {K0 : Nat → ClassId} (σ : pS) (p0 : Nat) (p1 : Int32) (p2 : Int32) {k38 : Int32 → Option Int32} {r : Int32} (C : Cok wX h X l0 ({ frames := 4, cells := 0, slots := 0, locals := 90 } : Room) D0 K0 cX3_payableDebts 5 RX3 wsX3_payableDebts) (hret : ∀ (pc : Nat) (lv' : List (Nat × Value)), decode cX3_payableDebts pc = .ok (.ireturn, 1) → G wX h X pc lv' [.int r] σ) (hk38 : ∀ (z3 : Int32), k38 z3 = some r → G wX h X 38 [(3, .int z3)] [] σ) : ∀ (F : Nat) (v3 : Int32) (v4 : Int32), lX3_payableDebts_5 σ p0 p1 p2 k38 F v3 v4 = some r → G wX h X 5 [(0, .ref (h p0)), (1, .int p1), (2, .int p2), (3, .int v3), (4, .int v4)] [] σ := by
  intro F
  induction F with
  | zero => intro v3 v4 hf; exact absurd hf (by simp [lX3_payableDebts_5])
  | succ F ih =>
    intro v3 v4 hf
    rw [lX3_payableDebts_5.eq_2] at hf
    refine g_iload C 4 dX3_payableDebts_5 rfl ?_
    refine g_aload_n C 0 dX3_payableDebts_7 rfl rfl ?_
    obtain ⟨hg1, hf⟩ := g_guard hf
    refine g_getI C in_X3_payableDebts_X3 (k := 1) lk_X3_payableDebts_0 rfl (Nat.le_of_ble_eq_true rfl) (shV hg1) (ltV hg1) rfl dX3_payableDebts_8 ?_
    refine g_icmp_ge (tgt := 38) hf C dX3_payableDebts_11 (by decide) (fun hf => ?_) (fun hf => ?_)
    · refine g_lv [3] rfl ?_
      exact hk38 v3 hf
    · refine g_aload_n C 0 dX3_payableDebts_14 rfl rfl ?_
      refine g_iload C 4 dX3_payableDebts_15 rfl ?_
      refine g_iload_n C 1 dX3_payableDebts_17 rfl rfl ?_
      refine g_iload_n C 2 dX3_payableDebts_18 rfl rfl ?_
      obtain ⟨r3, hc2, hf⟩ := g_bind hf
      refine g_callVi C (mX3_isPayable l0 D0 K0 h σ p0 v4 p1 p2 hc2) gX3_payableDebts_X3_isPayable rfl rfl rfl ddX3_isPayable ⟨(Nat.le_of_ble_eq_true rfl), (Nat.le_of_ble_eq_true rfl)⟩ (shV hg1) (ltV hg1) rfl rfl rfl (Nat.le_of_ble_eq_true rfl) dX3_payableDebts_19 ?_
      refine g_if_eq (tgt := 32) hf C dX3_payableDebts_22 (by decide) (fun hf => ?_) (fun hf => ?_)
      · refine g_iinc C 4 [1, 2, 3, 4, 0] dX3_payableDebts_32 rfl ic_1 (Nat.le_of_ble_eq_true rfl) rfl ?_
        refine g_goto (tgt := 5) C dX3_payableDebts_35 (by decide) ?_
        exact ih v3 (v4 + (1 : Int32)) hf
      · refine g_iload_n C 3 dX3_payableDebts_25 rfl rfl ?_
        refine g_iconst C dX3_payableDebts_26 ic_1 ?_
        refine g_iload C 4 dX3_payableDebts_27 rfl ?_
        refine g_ishl C dX3_payableDebts_29 ?_
        refine g_ior C dX3_payableDebts_30 ?_
        refine g_leti hf (fun x4 hf => ?_)
        refine g_istore_n C [1, 2, 3, 0, 4] dX3_payableDebts_31 rfl (Nat.le_of_ble_eq_true rfl) rfl ?_
        refine g_iinc C 4 [1, 2, 3, 4, 0] dX3_payableDebts_32 rfl ic_1 (Nat.le_of_ble_eq_true rfl) rfl ?_
        refine g_goto (tgt := 5) C dX3_payableDebts_35 (by decide) ?_
        exact ih x4 (v4 + (1 : Int32)) hf
set_option maxHeartbeats 4000000 in
set_option maxRecDepth 100000 in
theorem mX3_payableDebts (l0 : Launch) (D0 : va_G) (K0 : Nat → ClassId) (h : Nat → Nat) (σ : pS) (v : Nat) (a1 : Int32) (a2 : Int32) {r : Int32} (hf : fX3_payableDebts σ v a1 a2 = some r) : Met l0 yX3_payableDebts wsX3_payableDebts ({ frames := 4, cells := 0, slots := 0, locals := 90 } : Room) (va_Pc [.ref (h v), .int a1, .int a2] (pIn wX D0 K0 h σ)) (va_Qi (fun r' u' => r' = r ∧ u' = σ) (pOut wX D0 K0 h) (pA wX h)) 0 0 (pA wX h) := by
  refine p_metI (lv := [(0, .ref (h v)), (1, .int a1), (2, .int a2)]) (by decide +kernel) rfl rfl (Nat.le_of_ble_eq_true rfl) rfl (fun X C hret => ?_)
  unfold fX3_payableDebts at hf
  refine g_iconst C dX3_payableDebts_0 ic_0 ?_
  refine g_istore_n C [1, 2, 3, 0] dX3_payableDebts_1 rfl (Nat.le_of_ble_eq_true rfl) rfl ?_
  refine g_iconst C dX3_payableDebts_2 ic_0 ?_
  refine g_istore C [1, 2, 3, 4, 0] dX3_payableDebts_3 (Nat.le_of_ble_eq_true rfl) rfl ?_
  refine lX3_payableDebts_5_ok σ v a1 a2 C hret (fun y5 hf => ?_) FU (0 : Int32) (0 : Int32) hf
  refine g_iload_n C 0 dX3_payableDebts_38 rfl rfl ?_
  exact g_reti hf hret dX3_payableDebts_39
/-! X3_cost -/
theorem in_X3_cost_X3 : ∀ q ∈ u_ws RX3 TX3 11, q ∈ wsX3_cost := by decide +kernel
theorem lk_X3_cost_0 : Cond.fieldLink RX3 40 "EmptyHouse$Village" "value" "[I" ∈ wsX3_cost := by decide +kernel
theorem lk_X3_cost_1 : Cond.fieldLink RX3 43 "EmptyHouse$Village" "interest" "[I" ∈ wsX3_cost := by decide +kernel
theorem ddX3_cost : yX3_cost.cls = RX3 ∧ yX3_cost.cls ≠ "java/lang/invoke/MethodHandle" ∧ yX3_cost.cls ≠ "java/lang/invoke/VarHandle" ∧ (parseMethodDescriptor yX3_cost.desc).map (fun d => d.parameters.length) = some 2 := by decide +kernel
set_option maxHeartbeats 4000000 in
set_option maxRecDepth 100000 in
theorem mX3_cost (l0 : Launch) (D0 : va_G) (K0 : Nat → ClassId) (h : Nat → Nat) (σ : pS) (v : Nat) (a1 : Int32) (a2 : Int32) {r : Int32} (hf : fX3_cost σ v a1 a2 = some r) : Met l0 yX3_cost wsX3_cost ({ frames := 0, cells := 0, slots := 0, locals := 0 } : Room) (va_Pc [.ref (h v), .int a1, .int a2] (pIn wX D0 K0 h σ)) (va_Qi (fun r' u' => r' = r ∧ u' = σ) (pOut wX D0 K0 h) (pA wX h)) 0 0 (pA wX h) := by
  refine p_metI (lv := [(0, .ref (h v)), (1, .int a1), (2, .int a2)]) (by decide +kernel) rfl rfl (Nat.le_of_ble_eq_true rfl) rfl (fun X C hret => ?_)
  unfold fX3_cost at hf
  refine g_aload_n C 0 dX3_cost_0 rfl rfl ?_
  obtain ⟨hg1, hf⟩ := g_guard hf
  refine g_getC (n := v + 7) C in_X3_cost_X3 (k := 9) lk_X3_cost_0 rfl (Nat.le_of_ble_eq_true rfl) (shV hg1) (ltV hg1) rfl dX3_cost_1 ?_
  refine g_iload_n C 1 dX3_cost_4 rfl rfl ?_
  refine g_iald hf C (shV7 hg1).1 (shV7 hg1).2 dX3_cost_5 (fun hf => ?_)
  refine g_iload_n C 2 dX3_cost_6 rfl rfl ?_
  refine g_bipush C dX3_cost_7 bp_m9 ?_
  refine g_join (P := fun j => ∀ (y3 : Int32), j y3 = some r → G wX h X 18 [(0, .ref (h v)), (1, .int a1)] [.int y3, .int (pI σ (v + 7) (a1).toNatClampNeg)] σ) hf (fun y3 hf => ?_) (fun j2 hj2 hf => ?_)
  · refine g_aload_n C 0 dX3_cost_18 rfl rfl ?_
    refine g_getC (n := v + 8) C in_X3_cost_X3 (k := 10) lk_X3_cost_1 rfl (Nat.le_of_ble_eq_true rfl) (shV hg1) (ltV hg1) rfl dX3_cost_19 ?_
    refine g_iload_n C 1 dX3_cost_22 rfl rfl ?_
    refine g_iald hf C (shV8 hg1).1 (shV8 hg1).2 dX3_cost_23 (fun hf => ?_)
    refine g_imul C dX3_cost_24 ?_
    refine g_iadd C dX3_cost_25 ?_
    exact g_reti hf hret dX3_cost_26
  · refine g_icmp_ne (tgt := 17) hf C dX3_cost_9 (by decide) (fun hf => ?_) (fun hf => ?_)
    · refine g_iload_n C 2 dX3_cost_17 rfl rfl ?_
      refine g_lv [0, 1] rfl ?_
      exact hj2 a2 hf
    · refine g_bipush C dX3_cost_12 bp_12 ?_
      refine g_goto (tgt := 18) C dX3_cost_14 (by decide) ?_
      refine g_lv [0, 1] rfl ?_
      exact hj2 (12 : Int32) hf
/-! J7_fill_d0a16 -/
theorem ddJ7_fill_d0a16 : yJ7_fill_d0a16.cls ≠ "java/lang/invoke/MethodHandle" ∧ yJ7_fill_d0a16.cls ≠ "java/lang/invoke/VarHandle" ∧ (parseMethodDescriptor yJ7_fill_d0a16.desc).map (fun d => d.parameters.length) = some 2 := by decide +kernel
set_option maxHeartbeats 4000000 in
set_option maxRecDepth 100000 in
theorem lJ7_fill_d0a16_6_ok {h : Nat → Nat} {X : Cx} {l0 : Launch} {D0 : va_G} {K0 : Nat → ClassId} (p0 : Nat) (p1 : Int64) (p4 : Int32) {k22 : pS → Option (Unit × pS)} {r : Unit} {u : pS} (C : Cok wX h X l0 ({ frames := 0, cells := 0, slots := 0, locals := 0 } : Room) D0 K0 cJ7_fill_d0a16 5 RJ7 wsJ7_fill_d0a16) (hret : ∀ (pc : Nat) (lv' : List (Nat × Value)), decode cJ7_fill_d0a16 pc = .ok (.return_, 1) → G wX h X pc lv' [] u) (hk22 : ∀  (σ : pS), k22 σ = some (r, u) → G wX h X 22 [] [] σ) : ∀ (F : Nat) (v3 : Int32) (σ : pS), lJ7_fill_d0a16_6 p0 p1 p4 k22 F v3 σ = some (r, u) → G wX h X 6 [(0, .ref (h p0)), (1, .long p1), (3, .int v3), (4, .int p4)] [] σ := by
  intro F
  induction F with
  | zero => intro v3 σ hf; exact absurd hf (by simp [lJ7_fill_d0a16_6])
  | succ F ih =>
    intro v3 σ hf
    rw [lJ7_fill_d0a16_6.eq_2] at hf
    refine g_iload_n C 2 dJ7_fill_d0a16_6 rfl rfl ?_
    refine g_iload C 3 dJ7_fill_d0a16_7 rfl ?_
    refine g_icmp_ge (tgt := 22) hf C dJ7_fill_d0a16_9 (by decide) (fun hf => ?_) (fun hf => ?_)
    · refine g_lv [] rfl ?_
      exact hk22 σ hf
    · refine g_aload_n C 0 dJ7_fill_d0a16_12 rfl rfl ?_
      refine g_iload_n C 2 dJ7_fill_d0a16_13 rfl rfl ?_
      refine g_lload_n C 1 dJ7_fill_d0a16_14 rfl rfl ?_
      obtain ⟨hg6, hf⟩ := g_guard hf
      obtain ⟨b7, he8, hl9⟩ := isA_spec hg6
      refine g_last hf C he8 hl9 dJ7_fill_d0a16_15 (fun hf => ?_)
      refine g_lets hf (fun σ10 hf => ?_)
      refine g_iinc C 2 [1, 2, 0, 3] dJ7_fill_d0a16_16 rfl ic_1 (Nat.le_of_ble_eq_true rfl) rfl ?_
      refine g_goto (tgt := 6) C dJ7_fill_d0a16_19 (by decide) ?_
      exact ih (v3 + (1 : Int32)) σ10 hf
set_option maxHeartbeats 4000000 in
set_option maxRecDepth 100000 in
theorem mJ7_fill_d0a16 (l0 : Launch) (D0 : va_G) (K0 : Nat → ClassId) (h : Nat → Nat) (σ : pS) (a1 : Nat) (a2 : Int64) {r : Unit} {u : pS} (hf : fJ7_fill_d0a16 σ a1 a2 = some (r, u)) : Met l0 yJ7_fill_d0a16 wsJ7_fill_d0a16 ({ frames := 0, cells := 0, slots := 0, locals := 0 } : Room) (va_Pc [.ref (h a1), .long a2] (pIn wX D0 K0 h σ)) (va_Qv (fun u' => u' = u) (pOut wX D0 K0 h) (pA wX h)) 0 0 (pA wX h) := by
  refine p_metV (lv := [(0, .ref (h a1)), (1, .long a2)]) (by decide +kernel) rfl rfl (Nat.le_of_ble_eq_true rfl) rfl (fun X C hret => ?_)
  unfold fJ7_fill_d0a16 at hf
  refine g_iconst C dJ7_fill_d0a16_0 ic_0 ?_
  refine g_istore_n C [1, 2, 0] dJ7_fill_d0a16_1 rfl (Nat.le_of_ble_eq_true rfl) rfl ?_
  refine g_aload_n C 0 dJ7_fill_d0a16_2 rfl rfl ?_
  obtain ⟨hg1, hf⟩ := g_guard hf
  obtain ⟨b2, he3, hl4⟩ := isA_spec hg1
  refine g_alen C he3 hl4 rfl dJ7_fill_d0a16_3 ?_
  refine g_leti hf (fun x5 hf => ?_)
  refine g_istore C [1, 2, 3, 0] dJ7_fill_d0a16_4 (Nat.le_of_ble_eq_true rfl) rfl ?_
  refine lJ7_fill_d0a16_6_ok a1 a2 x5 C hret (fun σ11 hf => ?_) FU (0 : Int32) σ hf
  exact g_retvW hf hret dJ7_fill_d0a16_22
/-! X3_isDebt -/
theorem in_X3_isDebt_X3 : ∀ q ∈ u_ws RX3 TX3 11, q ∈ wsX3_isDebt := by decide +kernel
theorem lk_X3_isDebt_0 : Cond.fieldLink RX3 15 "EmptyHouse$Village" "debts" "I" ∈ wsX3_isDebt := by decide +kernel
theorem ddX3_isDebt : yX3_isDebt.cls = RX3 ∧ yX3_isDebt.cls ≠ "java/lang/invoke/MethodHandle" ∧ yX3_isDebt.cls ≠ "java/lang/invoke/VarHandle" ∧ (parseMethodDescriptor yX3_isDebt.desc).map (fun d => d.parameters.length) = some 1 := by decide +kernel
set_option maxHeartbeats 4000000 in
set_option maxRecDepth 100000 in
theorem mX3_isDebt (l0 : Launch) (D0 : va_G) (K0 : Nat → ClassId) (h : Nat → Nat) (σ : pS) (v : Nat) (a1 : Int32) {r : Int32} (hf : fX3_isDebt σ v a1 = some r) : Met l0 yX3_isDebt wsX3_isDebt ({ frames := 0, cells := 0, slots := 0, locals := 0 } : Room) (va_Pc [.ref (h v), .int a1] (pIn wX D0 K0 h σ)) (va_Qi (fun r' u' => r' = r ∧ u' = σ) (pOut wX D0 K0 h) (pA wX h)) 0 0 (pA wX h) := by
  refine p_metZ (lv := [(0, .ref (h v)), (1, .int a1)]) (by decide +kernel) rfl rfl (Nat.le_of_ble_eq_true rfl) rfl (fun X C hret => ?_)
  unfold fX3_isDebt at hf
  refine g_iload_n C 1 dX3_isDebt_0 rfl rfl ?_
  refine g_if_lt (tgt := 16) hf C dX3_isDebt_1 (by decide) (fun hf => ?_) (fun hf => ?_)
  · refine g_iconst C dX3_isDebt_16 ic_0 ?_
    exact g_retz hf (by decide) hret dX3_isDebt_17
  · refine g_iload_n C 1 dX3_isDebt_4 rfl rfl ?_
    refine g_aload_n C 0 dX3_isDebt_5 rfl rfl ?_
    obtain ⟨hg1, hf⟩ := g_guard hf
    refine g_getI C in_X3_isDebt_X3 (k := 1) lk_X3_isDebt_0 rfl (Nat.le_of_ble_eq_true rfl) (shV hg1) (ltV hg1) rfl dX3_isDebt_6 ?_
    refine g_icmp_ge (tgt := 16) hf C dX3_isDebt_9 (by decide) (fun hf => ?_) (fun hf => ?_)
    · refine g_iconst C dX3_isDebt_16 ic_0 ?_
      exact g_retz hf (by decide) hret dX3_isDebt_17
    · refine g_iconst C dX3_isDebt_12 ic_1 ?_
      refine g_goto (tgt := 17) C dX3_isDebt_13 (by decide) ?_
      exact g_retz hf (by decide) hret dX3_isDebt_17
/-! X3_isOfKind -/
theorem in_X3_isOfKind_X3 : ∀ q ∈ u_ws RX3 TX3 11, q ∈ wsX3_isOfKind := by decide +kernel
theorem lk_X3_isOfKind_0 : Cond.fieldLink RX3 21 "EmptyHouse$Village" "kind" "[I" ∈ wsX3_isOfKind := by decide +kernel
theorem ddX3_isOfKind : yX3_isOfKind.cls = RX3 ∧ yX3_isOfKind.cls ≠ "java/lang/invoke/MethodHandle" ∧ yX3_isOfKind.cls ≠ "java/lang/invoke/VarHandle" ∧ (parseMethodDescriptor yX3_isOfKind.desc).map (fun d => d.parameters.length) = some 2 := by decide +kernel
set_option maxHeartbeats 4000000 in
set_option maxRecDepth 100000 in
theorem mX3_isOfKind (l0 : Launch) (D0 : va_G) (K0 : Nat → ClassId) (h : Nat → Nat) (σ : pS) (v : Nat) (a1 : Int32) (a2 : Int32) {r : Int32} (hf : fX3_isOfKind σ v a1 a2 = some r) : Met l0 yX3_isOfKind wsX3_isOfKind ({ frames := 0, cells := 0, slots := 0, locals := 0 } : Room) (va_Pc [.ref (h v), .int a1, .int a2] (pIn wX D0 K0 h σ)) (va_Qi (fun r' u' => r' = r ∧ u' = σ) (pOut wX D0 K0 h) (pA wX h)) 0 0 (pA wX h) := by
  refine p_metZ (lv := [(0, .ref (h v)), (1, .int a1), (2, .int a2)]) (by decide +kernel) rfl rfl (Nat.le_of_ble_eq_true rfl) rfl (fun X C hret => ?_)
  unfold fX3_isOfKind at hf
  refine g_aload_n C 0 dX3_isOfKind_0 rfl rfl ?_
  obtain ⟨hg1, hf⟩ := g_guard hf
  refine g_getC (n := v + 1) C in_X3_isOfKind_X3 (k := 3) lk_X3_isOfKind_0 rfl (Nat.le_of_ble_eq_true rfl) (shV hg1) (ltV hg1) rfl dX3_isOfKind_1 ?_
  refine g_iload_n C 1 dX3_isOfKind_4 rfl rfl ?_
  refine g_iald hf C (shV1 hg1).1 (shV1 hg1).2 dX3_isOfKind_5 (fun hf => ?_)
  refine g_iload_n C 2 dX3_isOfKind_6 rfl rfl ?_
  refine g_icmp_eq (tgt := 40) hf C dX3_isOfKind_7 (by decide) (fun hf => ?_) (fun hf => ?_)
  · refine g_iconst C dX3_isOfKind_40 ic_1 ?_
    refine g_goto (tgt := 45) C dX3_isOfKind_41 (by decide) ?_
    exact g_retz hf (by decide) hret dX3_isOfKind_45
  · refine g_iload_n C 2 dX3_isOfKind_10 rfl rfl ?_
    refine g_iconst C dX3_isOfKind_11 ic_1 ?_
    refine g_join (P := fun j => j = some r → G wX h X 25 [(0, .ref (h v)), (1, .int a1), (2, .int a2)] [] σ) hf (fun hf => ?_) (fun j2 hj2 hf => ?_)
    · refine g_iload_n C 2 dX3_isOfKind_25 rfl rfl ?_
      refine g_iconst C dX3_isOfKind_26 ic_3 ?_
      refine g_icmp_ne (tgt := 44) hf C dX3_isOfKind_27 (by decide) (fun hf => ?_) (fun hf => ?_)
      · refine g_iconst C dX3_isOfKind_44 ic_0 ?_
        exact g_retz hf (by decide) hret dX3_isOfKind_45
      · refine g_aload_n C 0 dX3_isOfKind_30 rfl rfl ?_
        refine g_getC (n := v + 1) C in_X3_isOfKind_X3 (k := 3) lk_X3_isOfKind_0 rfl (Nat.le_of_ble_eq_true rfl) (shV hg1) (ltV hg1) rfl dX3_isOfKind_31 ?_
        refine g_iload_n C 1 dX3_isOfKind_34 rfl rfl ?_
        refine g_iald hf C (shV1 hg1).1 (shV1 hg1).2 dX3_isOfKind_35 (fun hf => ?_)
        refine g_iconst C dX3_isOfKind_36 ic_4 ?_
        refine g_icmp_ne (tgt := 44) hf C dX3_isOfKind_37 (by decide) (fun hf => ?_) (fun hf => ?_)
        · refine g_iconst C dX3_isOfKind_44 ic_0 ?_
          exact g_retz hf (by decide) hret dX3_isOfKind_45
        · refine g_iconst C dX3_isOfKind_40 ic_1 ?_
          refine g_goto (tgt := 45) C dX3_isOfKind_41 (by decide) ?_
          exact g_retz hf (by decide) hret dX3_isOfKind_45
    · refine g_icmp_ne (tgt := 25) hf C dX3_isOfKind_12 (by decide) (fun hf => ?_) (fun hf => ?_)
      · exact hj2 hf
      · refine g_aload_n C 0 dX3_isOfKind_15 rfl rfl ?_
        refine g_getC (n := v + 1) C in_X3_isOfKind_X3 (k := 3) lk_X3_isOfKind_0 rfl (Nat.le_of_ble_eq_true rfl) (shV hg1) (ltV hg1) rfl dX3_isOfKind_16 ?_
        refine g_iload_n C 1 dX3_isOfKind_19 rfl rfl ?_
        refine g_iald hf C (shV1 hg1).1 (shV1 hg1).2 dX3_isOfKind_20 (fun hf => ?_)
        refine g_iconst C dX3_isOfKind_21 ic_5 ?_
        refine g_icmp_eq (tgt := 40) hf C dX3_isOfKind_22 (by decide) (fun hf => ?_) (fun hf => ?_)
        · refine g_iconst C dX3_isOfKind_40 ic_1 ?_
          refine g_goto (tgt := 45) C dX3_isOfKind_41 (by decide) ?_
          exact g_retz hf (by decide) hret dX3_isOfKind_45
        · exact hj2 hf
/-! X3_howManyOfKind -/
theorem in_X3_howManyOfKind_X3 : ∀ q ∈ u_ws RX3 TX3 11, q ∈ wsX3_howManyOfKind := by decide +kernel
theorem lk_X3_howManyOfKind_0 : Cond.fieldLink RX3 9 "EmptyHouse$Village" "people" "I" ∈ wsX3_howManyOfKind := by decide +kernel
theorem ddX3_howManyOfKind : yX3_howManyOfKind.cls = RX3 ∧ yX3_howManyOfKind.cls ≠ "java/lang/invoke/MethodHandle" ∧ yX3_howManyOfKind.cls ≠ "java/lang/invoke/VarHandle" ∧ (parseMethodDescriptor yX3_howManyOfKind.desc).map (fun d => d.parameters.length) = some 1 := by decide +kernel
set_option maxHeartbeats 4000000 in
set_option maxRecDepth 100000 in
theorem lX3_howManyOfKind_4_ok {h : Nat → Nat} {X : Cx} {l0 : Launch} {D0 : va_G} {K0 : Nat → ClassId} (σ : pS) (p0 : Nat) (p1 : Int32) {k30 : Int32 → Option Int32} {r : Int32} (C : Cok wX h X l0 ({ frames := 1, cells := 0, slots := 0, locals := 22 } : Room) D0 K0 cX3_howManyOfKind 4 RX3 wsX3_howManyOfKind) (hret : ∀ (pc : Nat) (lv' : List (Nat × Value)), decode cX3_howManyOfKind pc = .ok (.ireturn, 1) → G wX h X pc lv' [.int r] σ) (hk30 : ∀ (z2 : Int32), k30 z2 = some r → G wX h X 30 [(2, .int z2)] [] σ) : ∀ (F : Nat) (v2 : Int32) (v3 : Int32), lX3_howManyOfKind_4 σ p0 p1 k30 F v2 v3 = some r → G wX h X 4 [(0, .ref (h p0)), (1, .int p1), (2, .int v2), (3, .int v3)] [] σ := by
  intro F
  induction F with
  | zero => intro v2 v3 hf; exact absurd hf (by simp [lX3_howManyOfKind_4])
  | succ F ih =>
    intro v2 v3 hf
    rw [lX3_howManyOfKind_4.eq_2] at hf
    refine g_iload_n C 3 dX3_howManyOfKind_4 rfl rfl ?_
    refine g_aload_n C 0 dX3_howManyOfKind_5 rfl rfl ?_
    obtain ⟨hg1, hf⟩ := g_guard hf
    refine g_getI C in_X3_howManyOfKind_X3 (k := 0) lk_X3_howManyOfKind_0 rfl (Nat.le_of_ble_eq_true rfl) (shV hg1) (ltV hg1) rfl dX3_howManyOfKind_6 ?_
    refine g_icmp_ge (tgt := 30) hf C dX3_howManyOfKind_9 (by decide) (fun hf => ?_) (fun hf => ?_)
    · refine g_lv [2] rfl ?_
      exact hk30 v2 hf
    · refine g_aload_n C 0 dX3_howManyOfKind_12 rfl rfl ?_
      refine g_iload_n C 3 dX3_howManyOfKind_13 rfl rfl ?_
      refine g_iload_n C 1 dX3_howManyOfKind_14 rfl rfl ?_
      obtain ⟨r3, hc2, hf⟩ := g_bind hf
      refine g_callVi C (mX3_isOfKind l0 D0 K0 h σ p0 v3 p1 hc2) gX3_howManyOfKind_X3_isOfKind rfl rfl rfl ddX3_isOfKind ⟨(Nat.le_of_ble_eq_true rfl), (Nat.le_of_ble_eq_true rfl)⟩ (shV hg1) (ltV hg1) rfl rfl rfl (Nat.le_of_ble_eq_true rfl) dX3_howManyOfKind_15 ?_
      refine g_if_eq (tgt := 24) hf C dX3_howManyOfKind_18 (by decide) (fun hf => ?_) (fun hf => ?_)
      · refine g_iinc C 3 [1, 2, 3, 0] dX3_howManyOfKind_24 rfl ic_1 (Nat.le_of_ble_eq_true rfl) rfl ?_
        refine g_goto (tgt := 4) C dX3_howManyOfKind_27 (by decide) ?_
        exact ih v2 (v3 + (1 : Int32)) hf
      · refine g_iinc C 2 [1, 2, 0, 3] dX3_howManyOfKind_21 rfl ic_1 (Nat.le_of_ble_eq_true rfl) rfl ?_
        refine g_iinc C 3 [1, 2, 3, 0] dX3_howManyOfKind_24 rfl ic_1 (Nat.le_of_ble_eq_true rfl) rfl ?_
        refine g_goto (tgt := 4) C dX3_howManyOfKind_27 (by decide) ?_
        exact ih (v2 + (1 : Int32)) (v3 + (1 : Int32)) hf
set_option maxHeartbeats 4000000 in
set_option maxRecDepth 100000 in
theorem mX3_howManyOfKind (l0 : Launch) (D0 : va_G) (K0 : Nat → ClassId) (h : Nat → Nat) (σ : pS) (v : Nat) (a1 : Int32) {r : Int32} (hf : fX3_howManyOfKind σ v a1 = some r) : Met l0 yX3_howManyOfKind wsX3_howManyOfKind ({ frames := 1, cells := 0, slots := 0, locals := 22 } : Room) (va_Pc [.ref (h v), .int a1] (pIn wX D0 K0 h σ)) (va_Qi (fun r' u' => r' = r ∧ u' = σ) (pOut wX D0 K0 h) (pA wX h)) 0 0 (pA wX h) := by
  refine p_metI (lv := [(0, .ref (h v)), (1, .int a1)]) (by decide +kernel) rfl rfl (Nat.le_of_ble_eq_true rfl) rfl (fun X C hret => ?_)
  unfold fX3_howManyOfKind at hf
  refine g_iconst C dX3_howManyOfKind_0 ic_0 ?_
  refine g_istore_n C [1, 2, 0] dX3_howManyOfKind_1 rfl (Nat.le_of_ble_eq_true rfl) rfl ?_
  refine g_iconst C dX3_howManyOfKind_2 ic_0 ?_
  refine g_istore_n C [1, 2, 3, 0] dX3_howManyOfKind_3 rfl (Nat.le_of_ble_eq_true rfl) rfl ?_
  refine lX3_howManyOfKind_4_ok σ v a1 C hret (fun y4 hf => ?_) FU (0 : Int32) (0 : Int32) hf
  refine g_iload_n C 0 dX3_howManyOfKind_30 rfl rfl ?_
  exact g_reti hf hret dX3_howManyOfKind_31
/-! X3_ofPerson -/
theorem in_X3_ofPerson_X3 : ∀ q ∈ u_ws RX3 TX3 11, q ∈ wsX3_ofPerson := by decide +kernel
theorem lk_X3_ofPerson_0 : Cond.fieldLink RX3 21 "EmptyHouse$Village" "kind" "[I" ∈ wsX3_ofPerson := by decide +kernel
theorem lk_X3_ofPerson_1 : Cond.fieldLink RX3 25 "EmptyHouse$Village" "mate" "[I" ∈ wsX3_ofPerson := by decide +kernel
theorem lk_X3_ofPerson_2 : Cond.fieldLink RX3 28 "EmptyHouse$Village" "out" "[I" ∈ wsX3_ofPerson := by decide +kernel
theorem lk_X3_ofPerson_3 : Cond.fieldLink RX3 31 "EmptyHouse$Village" "cards" "[I" ∈ wsX3_ofPerson := by decide +kernel
theorem ddX3_ofPerson : yX3_ofPerson.cls = RX3 ∧ yX3_ofPerson.cls ≠ "java/lang/invoke/MethodHandle" ∧ yX3_ofPerson.cls ≠ "java/lang/invoke/VarHandle" ∧ (parseMethodDescriptor yX3_ofPerson.desc).map (fun d => d.parameters.length) = some 2 := by decide +kernel
set_option maxHeartbeats 4000000 in
set_option maxRecDepth 100000 in
theorem mX3_ofPerson (l0 : Launch) (D0 : va_G) (K0 : Nat → ClassId) (h : Nat → Nat) (σ : pS) (v : Nat) (a1 : Int32) (a2 : Int32) {r : Int32} (hf : fX3_ofPerson σ v a1 a2 = some r) : Met l0 yX3_ofPerson wsX3_ofPerson ({ frames := 0, cells := 0, slots := 0, locals := 0 } : Room) (va_Pc [.ref (h v), .int a1, .int a2] (pIn wX D0 K0 h σ)) (va_Qi (fun r' u' => r' = r ∧ u' = σ) (pOut wX D0 K0 h) (pA wX h)) 0 0 (pA wX h) := by
  refine p_metI (lv := [(0, .ref (h v)), (1, .int a1), (2, .int a2)]) (by decide +kernel) rfl rfl (Nat.le_of_ble_eq_true rfl) rfl (fun X C hret => ?_)
  unfold fX3_ofPerson at hf
  refine g_iload_n C 2 dX3_ofPerson_0 rfl rfl ?_
  refine g_swc hf (fun hx2 hf => ?_) (fun hn3 hf => ?_)
  · refine g_swin (tgt := 28) hx2 C dX3_ofPerson_1 (by decide) (by decide) rfl (by decide) ?_
    refine g_aload_n C 0 dX3_ofPerson_28 rfl rfl ?_
    obtain ⟨hg1, hf⟩ := g_guard hf
    refine g_getC (n := v + 1) C in_X3_ofPerson_X3 (k := 3) lk_X3_ofPerson_0 rfl (Nat.le_of_ble_eq_true rfl) (shV hg1) (ltV hg1) rfl dX3_ofPerson_29 ?_
    refine g_iload_n C 1 dX3_ofPerson_32 rfl rfl ?_
    refine g_iald hf C (shV1 hg1).1 (shV1 hg1).2 dX3_ofPerson_33 (fun hf => ?_)
    exact g_reti hf hret dX3_ofPerson_34
  · refine g_swc hf (fun hx5 hf => ?_) (fun hn6 hf => ?_)
    · refine g_swin (tgt := 35) hx5 C dX3_ofPerson_1 (by decide) (by decide) rfl (by decide) ?_
      refine g_aload_n C 0 dX3_ofPerson_35 rfl rfl ?_
      obtain ⟨hg4, hf⟩ := g_guard hf
      refine g_getC (n := v + 2) C in_X3_ofPerson_X3 (k := 4) lk_X3_ofPerson_1 rfl (Nat.le_of_ble_eq_true rfl) (shV hg4) (ltV hg4) rfl dX3_ofPerson_36 ?_
      refine g_iload_n C 1 dX3_ofPerson_39 rfl rfl ?_
      refine g_iald hf C (shV2 hg4).1 (shV2 hg4).2 dX3_ofPerson_40 (fun hf => ?_)
      exact g_reti hf hret dX3_ofPerson_41
    · refine g_swc hf (fun hx8 hf => ?_) (fun hn9 hf => ?_)
      · refine g_swin (tgt := 42) hx8 C dX3_ofPerson_1 (by decide) (by decide) rfl (by decide) ?_
        refine g_aload_n C 0 dX3_ofPerson_42 rfl rfl ?_
        obtain ⟨hg7, hf⟩ := g_guard hf
        refine g_getC (n := v + 3) C in_X3_ofPerson_X3 (k := 5) lk_X3_ofPerson_2 rfl (Nat.le_of_ble_eq_true rfl) (shV hg7) (ltV hg7) rfl dX3_ofPerson_43 ?_
        refine g_iload_n C 1 dX3_ofPerson_46 rfl rfl ?_
        refine g_iald hf C (shV3 hg7).1 (shV3 hg7).2 dX3_ofPerson_47 (fun hf => ?_)
        exact g_reti hf hret dX3_ofPerson_48
      · refine g_swout (tgt := 49) C dX3_ofPerson_1 (by have := lv_neT (a := 0) hn3 (by decide); have := lv_neT (a := 1) hn6 (by decide); have := lv_neT (a := 2) hn9 (by decide); omega) (by decide) ?_
        refine g_aload_n C 0 dX3_ofPerson_49 rfl rfl ?_
        obtain ⟨hg10, hf⟩ := g_guard hf
        refine g_getC (n := v + 4) C in_X3_ofPerson_X3 (k := 6) lk_X3_ofPerson_3 rfl (Nat.le_of_ble_eq_true rfl) (shV hg10) (ltV hg10) rfl dX3_ofPerson_50 ?_
        refine g_iload_n C 1 dX3_ofPerson_53 rfl rfl ?_
        refine g_iald hf C (shV4 hg10).1 (shV4 hg10).2 dX3_ofPerson_54 (fun hf => ?_)
        exact g_reti hf hret dX3_ofPerson_55
/-! X3_howManyOwedTo -/
theorem in_X3_howManyOwedTo_X3 : ∀ q ∈ u_ws RX3 TX3 11, q ∈ wsX3_howManyOwedTo := by decide +kernel
theorem lk_X3_howManyOwedTo_0 : Cond.fieldLink RX3 15 "EmptyHouse$Village" "debts" "I" ∈ wsX3_howManyOwedTo := by decide +kernel
theorem lk_X3_howManyOwedTo_1 : Cond.fieldLink RX3 37 "EmptyHouse$Village" "creditor" "[I" ∈ wsX3_howManyOwedTo := by decide +kernel
theorem ddX3_howManyOwedTo : yX3_howManyOwedTo.cls = RX3 ∧ yX3_howManyOwedTo.cls ≠ "java/lang/invoke/MethodHandle" ∧ yX3_howManyOwedTo.cls ≠ "java/lang/invoke/VarHandle" ∧ (parseMethodDescriptor yX3_howManyOwedTo.desc).map (fun d => d.parameters.length) = some 1 := by decide +kernel
set_option maxHeartbeats 4000000 in
set_option maxRecDepth 100000 in
theorem lX3_howManyOwedTo_4_ok {h : Nat → Nat} {X : Cx} {l0 : Launch} {D0 : va_G} {K0 : Nat → ClassId} (σ : pS) (p0 : Nat) (p1 : Int32) {k31 : Int32 → Option Int32} {r : Int32} (C : Cok wX h X l0 ({ frames := 0, cells := 0, slots := 0, locals := 0 } : Room) D0 K0 cX3_howManyOwedTo 4 RX3 wsX3_howManyOwedTo) (hret : ∀ (pc : Nat) (lv' : List (Nat × Value)), decode cX3_howManyOwedTo pc = .ok (.ireturn, 1) → G wX h X pc lv' [.int r] σ) (hk31 : ∀ (z2 : Int32), k31 z2 = some r → G wX h X 31 [(2, .int z2)] [] σ) : ∀ (F : Nat) (v2 : Int32) (v3 : Int32), lX3_howManyOwedTo_4 σ p0 p1 k31 F v2 v3 = some r → G wX h X 4 [(0, .ref (h p0)), (1, .int p1), (2, .int v2), (3, .int v3)] [] σ := by
  intro F
  induction F with
  | zero => intro v2 v3 hf; exact absurd hf (by simp [lX3_howManyOwedTo_4])
  | succ F ih =>
    intro v2 v3 hf
    rw [lX3_howManyOwedTo_4.eq_2] at hf
    refine g_iload_n C 3 dX3_howManyOwedTo_4 rfl rfl ?_
    refine g_aload_n C 0 dX3_howManyOwedTo_5 rfl rfl ?_
    obtain ⟨hg1, hf⟩ := g_guard hf
    refine g_getI C in_X3_howManyOwedTo_X3 (k := 1) lk_X3_howManyOwedTo_0 rfl (Nat.le_of_ble_eq_true rfl) (shV hg1) (ltV hg1) rfl dX3_howManyOwedTo_6 ?_
    refine g_icmp_ge (tgt := 31) hf C dX3_howManyOwedTo_9 (by decide) (fun hf => ?_) (fun hf => ?_)
    · refine g_lv [2] rfl ?_
      exact hk31 v2 hf
    · refine g_aload_n C 0 dX3_howManyOwedTo_12 rfl rfl ?_
      refine g_getC (n := p0 + 6) C in_X3_howManyOwedTo_X3 (k := 8) lk_X3_howManyOwedTo_1 rfl (Nat.le_of_ble_eq_true rfl) (shV hg1) (ltV hg1) rfl dX3_howManyOwedTo_13 ?_
      refine g_iload_n C 3 dX3_howManyOwedTo_16 rfl rfl ?_
      refine g_iald hf C (shV6 hg1).1 (shV6 hg1).2 dX3_howManyOwedTo_17 (fun hf => ?_)
      refine g_iload_n C 1 dX3_howManyOwedTo_18 rfl rfl ?_
      refine g_icmp_ne (tgt := 25) hf C dX3_howManyOwedTo_19 (by decide) (fun hf => ?_) (fun hf => ?_)
      · refine g_iinc C 3 [1, 2, 3, 0] dX3_howManyOwedTo_25 rfl ic_1 (Nat.le_of_ble_eq_true rfl) rfl ?_
        refine g_goto (tgt := 4) C dX3_howManyOwedTo_28 (by decide) ?_
        exact ih v2 (v3 + (1 : Int32)) hf
      · refine g_iinc C 2 [1, 2, 0, 3] dX3_howManyOwedTo_22 rfl ic_1 (Nat.le_of_ble_eq_true rfl) rfl ?_
        refine g_iinc C 3 [1, 2, 3, 0] dX3_howManyOwedTo_25 rfl ic_1 (Nat.le_of_ble_eq_true rfl) rfl ?_
        refine g_goto (tgt := 4) C dX3_howManyOwedTo_28 (by decide) ?_
        exact ih (v2 + (1 : Int32)) (v3 + (1 : Int32)) hf
set_option maxHeartbeats 4000000 in
set_option maxRecDepth 100000 in
theorem mX3_howManyOwedTo (l0 : Launch) (D0 : va_G) (K0 : Nat → ClassId) (h : Nat → Nat) (σ : pS) (v : Nat) (a1 : Int32) {r : Int32} (hf : fX3_howManyOwedTo σ v a1 = some r) : Met l0 yX3_howManyOwedTo wsX3_howManyOwedTo ({ frames := 0, cells := 0, slots := 0, locals := 0 } : Room) (va_Pc [.ref (h v), .int a1] (pIn wX D0 K0 h σ)) (va_Qi (fun r' u' => r' = r ∧ u' = σ) (pOut wX D0 K0 h) (pA wX h)) 0 0 (pA wX h) := by
  refine p_metI (lv := [(0, .ref (h v)), (1, .int a1)]) (by decide +kernel) rfl rfl (Nat.le_of_ble_eq_true rfl) rfl (fun X C hret => ?_)
  unfold fX3_howManyOwedTo at hf
  refine g_iconst C dX3_howManyOwedTo_0 ic_0 ?_
  refine g_istore_n C [1, 2, 0] dX3_howManyOwedTo_1 rfl (Nat.le_of_ble_eq_true rfl) rfl ?_
  refine g_iconst C dX3_howManyOwedTo_2 ic_0 ?_
  refine g_istore_n C [1, 2, 3, 0] dX3_howManyOwedTo_3 rfl (Nat.le_of_ble_eq_true rfl) rfl ?_
  refine lX3_howManyOwedTo_4_ok σ v a1 C hret (fun y2 hf => ?_) FU (0 : Int32) (0 : Int32) hf
  refine g_iload_n C 0 dX3_howManyOwedTo_31 rfl rfl ?_
  exact g_reti hf hret dX3_howManyOwedTo_32
/-! X3_mateOut -/
theorem in_X3_mateOut_X3 : ∀ q ∈ u_ws RX3 TX3 11, q ∈ wsX3_mateOut := by decide +kernel
theorem lk_X3_mateOut_0 : Cond.fieldLink RX3 25 "EmptyHouse$Village" "mate" "[I" ∈ wsX3_mateOut := by decide +kernel
theorem lk_X3_mateOut_1 : Cond.fieldLink RX3 28 "EmptyHouse$Village" "out" "[I" ∈ wsX3_mateOut := by decide +kernel
theorem ddX3_mateOut : yX3_mateOut.cls = RX3 ∧ yX3_mateOut.cls ≠ "java/lang/invoke/MethodHandle" ∧ yX3_mateOut.cls ≠ "java/lang/invoke/VarHandle" ∧ (parseMethodDescriptor yX3_mateOut.desc).map (fun d => d.parameters.length) = some 1 := by decide +kernel
set_option maxHeartbeats 4000000 in
set_option maxRecDepth 100000 in
theorem mX3_mateOut (l0 : Launch) (D0 : va_G) (K0 : Nat → ClassId) (h : Nat → Nat) (σ : pS) (v : Nat) (a1 : Int32) {r : Int32} (hf : fX3_mateOut σ v a1 = some r) : Met l0 yX3_mateOut wsX3_mateOut ({ frames := 1, cells := 0, slots := 0, locals := 21 } : Room) (va_Pc [.ref (h v), .int a1] (pIn wX D0 K0 h σ)) (va_Qi (fun r' u' => r' = r ∧ u' = σ) (pOut wX D0 K0 h) (pA wX h)) 0 0 (pA wX h) := by
  refine p_metI (lv := [(0, .ref (h v)), (1, .int a1)]) (by decide +kernel) rfl rfl (Nat.le_of_ble_eq_true rfl) rfl (fun X C hret => ?_)
  unfold fX3_mateOut at hf
  refine g_aload_n C 0 dX3_mateOut_0 rfl rfl ?_
  refine g_aload_n C 0 dX3_mateOut_1 rfl rfl ?_
  obtain ⟨hg1, hf⟩ := g_guard hf
  refine g_getC (n := v + 2) C in_X3_mateOut_X3 (k := 4) lk_X3_mateOut_0 rfl (Nat.le_of_ble_eq_true rfl) (shV hg1) (ltV hg1) rfl dX3_mateOut_2 ?_
  refine g_iload_n C 1 dX3_mateOut_5 rfl rfl ?_
  refine g_iald hf C (shV2 hg1).1 (shV2 hg1).2 dX3_mateOut_6 (fun hf => ?_)
  obtain ⟨r3, hc2, hf⟩ := g_bind hf
  refine g_callVi C (mX3_isPerson l0 D0 K0 h σ v (pI σ (v + 2) (a1).toNatClampNeg) hc2) gX3_mateOut_X3_isPerson rfl rfl rfl ddX3_isPerson ⟨(Nat.le_of_ble_eq_true rfl), (Nat.le_of_ble_eq_true rfl)⟩ (shV hg1) (ltV hg1) rfl rfl rfl (Nat.le_of_ble_eq_true rfl) dX3_mateOut_7 ?_
  refine g_if_eq (tgt := 27) hf C dX3_mateOut_10 (by decide) (fun hf => ?_) (fun hf => ?_)
  · refine g_iconst C dX3_mateOut_27 ic_0 ?_
    exact g_reti hf hret dX3_mateOut_28
  · refine g_aload_n C 0 dX3_mateOut_13 rfl rfl ?_
    refine g_getC (n := v + 3) C in_X3_mateOut_X3 (k := 5) lk_X3_mateOut_1 rfl (Nat.le_of_ble_eq_true rfl) (shV hg1) (ltV hg1) rfl dX3_mateOut_14 ?_
    refine g_aload_n C 0 dX3_mateOut_17 rfl rfl ?_
    refine g_getC (n := v + 2) C in_X3_mateOut_X3 (k := 4) lk_X3_mateOut_0 rfl (Nat.le_of_ble_eq_true rfl) (shV hg1) (ltV hg1) rfl dX3_mateOut_18 ?_
    refine g_iload_n C 1 dX3_mateOut_21 rfl rfl ?_
    refine g_iald hf C (shV2 hg1).1 (shV2 hg1).2 dX3_mateOut_22 (fun hf => ?_)
    refine g_iald hf C (shV3 hg1).1 (shV3 hg1).2 dX3_mateOut_23 (fun hf => ?_)
    refine g_goto (tgt := 28) C dX3_mateOut_24 (by decide) ?_
    exact g_reti hf hret dX3_mateOut_28
/-! X3_houseTells -/
theorem in_X3_houseTells_X3 : ∀ q ∈ u_ws RX3 TX3 11, q ∈ wsX3_houseTells := by decide +kernel
theorem lk_X3_houseTells_0 : Cond.fieldLink RX3 28 "EmptyHouse$Village" "out" "[I" ∈ wsX3_houseTells := by decide +kernel
theorem lk_X3_houseTells_1 : Cond.fieldLink RX3 25 "EmptyHouse$Village" "mate" "[I" ∈ wsX3_houseTells := by decide +kernel
theorem ddX3_houseTells : yX3_houseTells.cls = RX3 ∧ yX3_houseTells.cls ≠ "java/lang/invoke/MethodHandle" ∧ yX3_houseTells.cls ≠ "java/lang/invoke/VarHandle" ∧ (parseMethodDescriptor yX3_houseTells.desc).map (fun d => d.parameters.length) = some 2 := by decide +kernel
set_option maxHeartbeats 4000000 in
set_option maxRecDepth 100000 in
theorem mX3_houseTells (l0 : Launch) (D0 : va_G) (K0 : Nat → ClassId) (h : Nat → Nat) (σ : pS) (v : Nat) (a1 : Int32) (a2 : Int32) {r : Int32} (hf : fX3_houseTells σ v a1 a2 = some r) : Met l0 yX3_houseTells wsX3_houseTells ({ frames := 2, cells := 0, slots := 0, locals := 42 } : Room) (va_Pc [.ref (h v), .int a1, .int a2] (pIn wX D0 K0 h σ)) (va_Qi (fun r' u' => r' = r ∧ u' = σ) (pOut wX D0 K0 h) (pA wX h)) 0 0 (pA wX h) := by
  refine p_metI (lv := [(0, .ref (h v)), (1, .int a1), (2, .int a2)]) (by decide +kernel) rfl rfl (Nat.le_of_ble_eq_true rfl) rfl (fun X C hret => ?_)
  unfold fX3_houseTells at hf
  refine g_iload_n C 2 dX3_houseTells_0 rfl rfl ?_
  refine g_swc hf (fun hx6 hf => ?_) (fun hn7 hf => ?_)
  · refine g_swin (tgt := 32) hx6 C dX3_houseTells_1 (by decide) (by decide) rfl (by decide) ?_
    refine g_aload_n C 0 dX3_houseTells_32 rfl rfl ?_
    obtain ⟨hg1, hf⟩ := g_guard hf
    refine g_getC (n := v + 3) C in_X3_houseTells_X3 (k := 5) lk_X3_houseTells_0 rfl (Nat.le_of_ble_eq_true rfl) (shV hg1) (ltV hg1) rfl dX3_houseTells_33 ?_
    refine g_iload_n C 1 dX3_houseTells_36 rfl rfl ?_
    refine g_iald hf C (shV3 hg1).1 (shV3 hg1).2 dX3_houseTells_37 (fun hf => ?_)
    refine g_aload_n C 0 dX3_houseTells_38 rfl rfl ?_
    refine g_iload_n C 1 dX3_houseTells_39 rfl rfl ?_
    obtain ⟨r3, hc2, hf⟩ := g_bind hf
    refine g_callVi C (mX3_dogHours l0 D0 K0 h σ v a1 hc2) gX3_houseTells_X3_dogHours rfl rfl rfl ddX3_dogHours ⟨(Nat.le_of_ble_eq_true rfl), (Nat.le_of_ble_eq_true rfl)⟩ (shV hg1) (ltV hg1) rfl rfl rfl (Nat.le_of_ble_eq_true rfl) dX3_houseTells_40 ?_
    refine g_iand C dX3_houseTells_43 ?_
    obtain ⟨r5, hc4, hf⟩ := g_bind hf
    refine g_callSi C (mJ6_bitCount_0f7a4 l0 D0 K0 h σ ((pI σ (v + 3) (a1).toNatClampNeg) &&& r3) hc4) gX3_houseTells_J6_bitCount_0f7a4 rfl rfl rfl ddJ6_bitCount_0f7a4 ⟨(Nat.le_of_ble_eq_true rfl), (Nat.le_of_ble_eq_true rfl)⟩ rfl rfl (Nat.le_of_ble_eq_true rfl) dX3_houseTells_44 ?_
    exact g_reti hf hret dX3_houseTells_47
  · refine g_swc hf (fun hx11 hf => ?_) (fun hn12 hf => ?_)
    · refine g_swin (tgt := 48) hx11 C dX3_houseTells_1 (by decide) (by decide) rfl (by decide) ?_
      refine g_aload_n C 0 dX3_houseTells_48 rfl rfl ?_
      refine g_iload_n C 1 dX3_houseTells_49 rfl rfl ?_
      obtain ⟨hg8, hf⟩ := g_guard hf
      obtain ⟨r10, hc9, hf⟩ := g_bind hf
      refine g_callVi C (mX3_howManyOwedTo l0 D0 K0 h σ v a1 hc9) gX3_houseTells_X3_howManyOwedTo rfl rfl rfl ddX3_howManyOwedTo ⟨(Nat.le_of_ble_eq_true rfl), (Nat.le_of_ble_eq_true rfl)⟩ (shV hg8) (ltV hg8) rfl rfl rfl (Nat.le_of_ble_eq_true rfl) dX3_houseTells_50 ?_
      exact g_reti hf hret dX3_houseTells_53
    · refine g_swc hf (fun hx14 hf => ?_) (fun hn15 hf => ?_)
      · refine g_swin (tgt := 54) hx14 C dX3_houseTells_1 (by decide) (by decide) rfl (by decide) ?_
        refine g_aload_n C 0 dX3_houseTells_54 rfl rfl ?_
        obtain ⟨hg13, hf⟩ := g_guard hf
        refine g_getC (n := v + 2) C in_X3_houseTells_X3 (k := 4) lk_X3_houseTells_1 rfl (Nat.le_of_ble_eq_true rfl) (shV hg13) (ltV hg13) rfl dX3_houseTells_55 ?_
        refine g_iload_n C 1 dX3_houseTells_58 rfl rfl ?_
        refine g_iald hf C (shV2 hg13).1 (shV2 hg13).2 dX3_houseTells_59 (fun hf => ?_)
        exact g_reti hf hret dX3_houseTells_60
      · refine g_swc hf (fun hx21 hf => ?_) (fun hn22 hf => ?_)
        · refine g_swin (tgt := 61) hx21 C dX3_houseTells_1 (by decide) (by decide) rfl (by decide) ?_
          refine g_aload_n C 0 dX3_houseTells_61 rfl rfl ?_
          obtain ⟨hg16, hf⟩ := g_guard hf
          refine g_getC (n := v + 3) C in_X3_houseTells_X3 (k := 5) lk_X3_houseTells_0 rfl (Nat.le_of_ble_eq_true rfl) (shV hg16) (ltV hg16) rfl dX3_houseTells_62 ?_
          refine g_iload_n C 1 dX3_houseTells_65 rfl rfl ?_
          refine g_iald hf C (shV3 hg16).1 (shV3 hg16).2 dX3_houseTells_66 (fun hf => ?_)
          refine g_aload_n C 0 dX3_houseTells_67 rfl rfl ?_
          refine g_iload_n C 1 dX3_houseTells_68 rfl rfl ?_
          obtain ⟨r18, hc17, hf⟩ := g_bind hf
          refine g_callVi C (mX3_mateOut l0 D0 K0 h σ v a1 hc17) gX3_houseTells_X3_mateOut rfl rfl rfl ddX3_mateOut ⟨(Nat.le_of_ble_eq_true rfl), (Nat.le_of_ble_eq_true rfl)⟩ (shV hg16) (ltV hg16) rfl rfl rfl (Nat.le_of_ble_eq_true rfl) dX3_houseTells_69 ?_
          refine g_ixor C dX3_houseTells_72 ?_
          obtain ⟨r20, hc19, hf⟩ := g_bind hf
          refine g_callSi C (mJ6_bitCount_0f7a4 l0 D0 K0 h σ ((pI σ (v + 3) (a1).toNatClampNeg) ^^^ r18) hc19) gX3_houseTells_J6_bitCount_0f7a4 rfl rfl rfl ddJ6_bitCount_0f7a4 ⟨(Nat.le_of_ble_eq_true rfl), (Nat.le_of_ble_eq_true rfl)⟩ rfl rfl (Nat.le_of_ble_eq_true rfl) dX3_houseTells_73 ?_
          exact g_reti hf hret dX3_houseTells_76
        · refine g_swout (tgt := 77) C dX3_houseTells_1 (by have := lv_neT (a := 1) hn7 (by decide); have := lv_neT (a := 2) hn12 (by decide); have := lv_neT (a := 3) hn15 (by decide); have := lv_neT (a := 4) hn22 (by decide); omega) (by decide) ?_
          refine g_aload_n C 0 dX3_houseTells_77 rfl rfl ?_
          obtain ⟨hg23, hf⟩ := g_guard hf
          refine g_getC (n := v + 3) C in_X3_houseTells_X3 (k := 5) lk_X3_houseTells_0 rfl (Nat.le_of_ble_eq_true rfl) (shV hg23) (ltV hg23) rfl dX3_houseTells_78 ?_
          refine g_iload_n C 1 dX3_houseTells_81 rfl rfl ?_
          refine g_iald hf C (shV3 hg23).1 (shV3 hg23).2 dX3_houseTells_82 (fun hf => ?_)
          obtain ⟨r25, hc24, hf⟩ := g_bind hf
          refine g_callSi C (mJ6_bitCount_0f7a4 l0 D0 K0 h σ (pI σ (v + 3) (a1).toNatClampNeg) hc24) gX3_houseTells_J6_bitCount_0f7a4 rfl rfl rfl ddJ6_bitCount_0f7a4 ⟨(Nat.le_of_ble_eq_true rfl), (Nat.le_of_ble_eq_true rfl)⟩ rfl rfl (Nat.le_of_ble_eq_true rfl) dX3_houseTells_83 ?_
          exact g_reti hf hret dX3_houseTells_86
/-! X3_emptyHours -/
theorem ddX3_emptyHours : yX3_emptyHours.cls = RX3 ∧ yX3_emptyHours.cls ≠ "java/lang/invoke/MethodHandle" ∧ yX3_emptyHours.cls ≠ "java/lang/invoke/VarHandle" ∧ (parseMethodDescriptor yX3_emptyHours.desc).map (fun d => d.parameters.length) = some 1 := by decide +kernel
set_option maxHeartbeats 4000000 in
set_option maxRecDepth 100000 in
theorem lX3_emptyHours_4_ok {h : Nat → Nat} {X : Cx} {l0 : Launch} {D0 : va_G} {K0 : Nat → ClassId} (σ : pS) (p0 : Nat) (p1 : Int32) {k36 : Int32 → Option Int32} {r : Int32} (C : Cok wX h X l0 ({ frames := 3, cells := 0, slots := 0, locals := 67 } : Room) D0 K0 cX3_emptyHours 4 RX3 wsX3_emptyHours) (hret : ∀ (pc : Nat) (lv' : List (Nat × Value)), decode cX3_emptyHours pc = .ok (.ireturn, 1) → G wX h X pc lv' [.int r] σ) (hk36 : ∀ (z2 : Int32), k36 z2 = some r → G wX h X 36 [(2, .int z2)] [] σ) : ∀ (F : Nat) (v2 : Int32) (v3 : Int32), lX3_emptyHours_4 σ p0 p1 k36 F v2 v3 = some r → G wX h X 4 [(0, .ref (h p0)), (1, .int p1), (2, .int v2), (3, .int v3)] [] σ := by
  intro F
  induction F with
  | zero => intro v2 v3 hf; exact absurd hf (by simp [lX3_emptyHours_4])
  | succ F ih =>
    intro v2 v3 hf
    rw [lX3_emptyHours_4.eq_2] at hf
    refine g_iload_n C 3 dX3_emptyHours_4 rfl rfl ?_
    refine g_bipush C dX3_emptyHours_5 bp_12 ?_
    refine g_icmp_ge (tgt := 36) hf C dX3_emptyHours_7 (by decide) (fun hf => ?_) (fun hf => ?_)
    · refine g_lv [2] rfl ?_
      exact hk36 v2 hf
    · refine g_aload_n C 0 dX3_emptyHours_10 rfl rfl ?_
      refine g_iload_n C 1 dX3_emptyHours_11 rfl rfl ?_
      refine g_iload_n C 3 dX3_emptyHours_12 rfl rfl ?_
      refine g_aload_n C 0 dX3_emptyHours_13 rfl rfl ?_
      refine g_iload_n C 3 dX3_emptyHours_14 rfl rfl ?_
      obtain ⟨hg1, hf⟩ := g_guard hf
      obtain ⟨r3, hc2, hf⟩ := g_bind hf
      refine g_callVi C (mX3_peopleOut l0 D0 K0 h σ p0 v3 hc2) gX3_emptyHours_X3_peopleOut rfl rfl rfl ddX3_peopleOut ⟨(Nat.le_of_ble_eq_true rfl), (Nat.le_of_ble_eq_true rfl)⟩ (shV hg1) (ltV hg1) rfl rfl rfl (Nat.le_of_ble_eq_true rfl) dX3_emptyHours_15 ?_
      obtain ⟨r5, hc4, hf⟩ := g_bind hf
      refine g_callVi C (mX3_countsAsEmpty l0 D0 K0 h σ p0 p1 v3 r3 hc4) gX3_emptyHours_X3_countsAsEmpty rfl rfl rfl ddX3_countsAsEmpty ⟨(Nat.le_of_ble_eq_true rfl), (Nat.le_of_ble_eq_true rfl)⟩ (shV hg1) (ltV hg1) rfl rfl rfl (Nat.le_of_ble_eq_true rfl) dX3_emptyHours_18 ?_
      refine g_if_eq (tgt := 30) hf C dX3_emptyHours_21 (by decide) (fun hf => ?_) (fun hf => ?_)
      · refine g_iinc C 3 [1, 2, 3, 0] dX3_emptyHours_30 rfl ic_1 (Nat.le_of_ble_eq_true rfl) rfl ?_
        refine g_goto (tgt := 4) C dX3_emptyHours_33 (by decide) ?_
        exact ih v2 (v3 + (1 : Int32)) hf
      · refine g_iload_n C 2 dX3_emptyHours_24 rfl rfl ?_
        refine g_iconst C dX3_emptyHours_25 ic_1 ?_
        refine g_iload_n C 3 dX3_emptyHours_26 rfl rfl ?_
        refine g_ishl C dX3_emptyHours_27 ?_
        refine g_ior C dX3_emptyHours_28 ?_
        refine g_leti hf (fun x6 hf => ?_)
        refine g_istore_n C [1, 2, 0, 3] dX3_emptyHours_29 rfl (Nat.le_of_ble_eq_true rfl) rfl ?_
        refine g_iinc C 3 [1, 2, 3, 0] dX3_emptyHours_30 rfl ic_1 (Nat.le_of_ble_eq_true rfl) rfl ?_
        refine g_goto (tgt := 4) C dX3_emptyHours_33 (by decide) ?_
        exact ih x6 (v3 + (1 : Int32)) hf
set_option maxHeartbeats 4000000 in
set_option maxRecDepth 100000 in
theorem mX3_emptyHours (l0 : Launch) (D0 : va_G) (K0 : Nat → ClassId) (h : Nat → Nat) (σ : pS) (v : Nat) (a1 : Int32) {r : Int32} (hf : fX3_emptyHours σ v a1 = some r) : Met l0 yX3_emptyHours wsX3_emptyHours ({ frames := 3, cells := 0, slots := 0, locals := 67 } : Room) (va_Pc [.ref (h v), .int a1] (pIn wX D0 K0 h σ)) (va_Qi (fun r' u' => r' = r ∧ u' = σ) (pOut wX D0 K0 h) (pA wX h)) 0 0 (pA wX h) := by
  refine p_metI (lv := [(0, .ref (h v)), (1, .int a1)]) (by decide +kernel) rfl rfl (Nat.le_of_ble_eq_true rfl) rfl (fun X C hret => ?_)
  unfold fX3_emptyHours at hf
  refine g_iconst C dX3_emptyHours_0 ic_0 ?_
  refine g_istore_n C [1, 2, 0] dX3_emptyHours_1 rfl (Nat.le_of_ble_eq_true rfl) rfl ?_
  refine g_iconst C dX3_emptyHours_2 ic_0 ?_
  refine g_istore_n C [1, 2, 3, 0] dX3_emptyHours_3 rfl (Nat.le_of_ble_eq_true rfl) rfl ?_
  refine lX3_emptyHours_4_ok σ v a1 C hret (fun y7 hf => ?_) FU (0 : Int32) (0 : Int32) hf
  refine g_iload_n C 0 dX3_emptyHours_36 rfl rfl ?_
  exact g_reti hf hret dX3_emptyHours_37
/-! X3_payableHours -/
theorem ddX3_payableHours : yX3_payableHours.cls = RX3 ∧ yX3_payableHours.cls ≠ "java/lang/invoke/MethodHandle" ∧ yX3_payableHours.cls ≠ "java/lang/invoke/VarHandle" ∧ (parseMethodDescriptor yX3_payableHours.desc).map (fun d => d.parameters.length) = some 1 := by decide +kernel
set_option maxHeartbeats 4000000 in
set_option maxRecDepth 100000 in
theorem lX3_payableHours_4_ok {h : Nat → Nat} {X : Cx} {l0 : Launch} {D0 : va_G} {K0 : Nat → ClassId} (σ : pS) (p0 : Nat) (p1 : Int32) {k36 : Int32 → Option Int32} {r : Int32} (C : Cok wX h X l0 ({ frames := 4, cells := 0, slots := 0, locals := 90 } : Room) D0 K0 cX3_payableHours 4 RX3 wsX3_payableHours) (hret : ∀ (pc : Nat) (lv' : List (Nat × Value)), decode cX3_payableHours pc = .ok (.ireturn, 1) → G wX h X pc lv' [.int r] σ) (hk36 : ∀ (z2 : Int32), k36 z2 = some r → G wX h X 36 [(2, .int z2)] [] σ) : ∀ (F : Nat) (v2 : Int32) (v3 : Int32), lX3_payableHours_4 σ p0 p1 k36 F v2 v3 = some r → G wX h X 4 [(0, .ref (h p0)), (1, .int p1), (2, .int v2), (3, .int v3)] [] σ := by
  intro F
  induction F with
  | zero => intro v2 v3 hf; exact absurd hf (by simp [lX3_payableHours_4])
  | succ F ih =>
    intro v2 v3 hf
    rw [lX3_payableHours_4.eq_2] at hf
    refine g_iload_n C 3 dX3_payableHours_4 rfl rfl ?_
    refine g_bipush C dX3_payableHours_5 bp_12 ?_
    refine g_icmp_ge (tgt := 36) hf C dX3_payableHours_7 (by decide) (fun hf => ?_) (fun hf => ?_)
    · refine g_lv [2] rfl ?_
      exact hk36 v2 hf
    · refine g_aload_n C 0 dX3_payableHours_10 rfl rfl ?_
      refine g_iload_n C 1 dX3_payableHours_11 rfl rfl ?_
      refine g_iload_n C 3 dX3_payableHours_12 rfl rfl ?_
      refine g_aload_n C 0 dX3_payableHours_13 rfl rfl ?_
      refine g_iload_n C 3 dX3_payableHours_14 rfl rfl ?_
      obtain ⟨hg1, hf⟩ := g_guard hf
      obtain ⟨r3, hc2, hf⟩ := g_bind hf
      refine g_callVi C (mX3_peopleOut l0 D0 K0 h σ p0 v3 hc2) gX3_payableHours_X3_peopleOut rfl rfl rfl ddX3_peopleOut ⟨(Nat.le_of_ble_eq_true rfl), (Nat.le_of_ble_eq_true rfl)⟩ (shV hg1) (ltV hg1) rfl rfl rfl (Nat.le_of_ble_eq_true rfl) dX3_payableHours_15 ?_
      obtain ⟨r5, hc4, hf⟩ := g_bind hf
      refine g_callVi C (mX3_isPayable l0 D0 K0 h σ p0 p1 v3 r3 hc4) gX3_payableHours_X3_isPayable rfl rfl rfl ddX3_isPayable ⟨(Nat.le_of_ble_eq_true rfl), (Nat.le_of_ble_eq_true rfl)⟩ (shV hg1) (ltV hg1) rfl rfl rfl (Nat.le_of_ble_eq_true rfl) dX3_payableHours_18 ?_
      refine g_if_eq (tgt := 30) hf C dX3_payableHours_21 (by decide) (fun hf => ?_) (fun hf => ?_)
      · refine g_iinc C 3 [1, 2, 3, 0] dX3_payableHours_30 rfl ic_1 (Nat.le_of_ble_eq_true rfl) rfl ?_
        refine g_goto (tgt := 4) C dX3_payableHours_33 (by decide) ?_
        exact ih v2 (v3 + (1 : Int32)) hf
      · refine g_iload_n C 2 dX3_payableHours_24 rfl rfl ?_
        refine g_iconst C dX3_payableHours_25 ic_1 ?_
        refine g_iload_n C 3 dX3_payableHours_26 rfl rfl ?_
        refine g_ishl C dX3_payableHours_27 ?_
        refine g_ior C dX3_payableHours_28 ?_
        refine g_leti hf (fun x6 hf => ?_)
        refine g_istore_n C [1, 2, 0, 3] dX3_payableHours_29 rfl (Nat.le_of_ble_eq_true rfl) rfl ?_
        refine g_iinc C 3 [1, 2, 3, 0] dX3_payableHours_30 rfl ic_1 (Nat.le_of_ble_eq_true rfl) rfl ?_
        refine g_goto (tgt := 4) C dX3_payableHours_33 (by decide) ?_
        exact ih x6 (v3 + (1 : Int32)) hf
set_option maxHeartbeats 4000000 in
set_option maxRecDepth 100000 in
theorem mX3_payableHours (l0 : Launch) (D0 : va_G) (K0 : Nat → ClassId) (h : Nat → Nat) (σ : pS) (v : Nat) (a1 : Int32) {r : Int32} (hf : fX3_payableHours σ v a1 = some r) : Met l0 yX3_payableHours wsX3_payableHours ({ frames := 4, cells := 0, slots := 0, locals := 90 } : Room) (va_Pc [.ref (h v), .int a1] (pIn wX D0 K0 h σ)) (va_Qi (fun r' u' => r' = r ∧ u' = σ) (pOut wX D0 K0 h) (pA wX h)) 0 0 (pA wX h) := by
  refine p_metI (lv := [(0, .ref (h v)), (1, .int a1)]) (by decide +kernel) rfl rfl (Nat.le_of_ble_eq_true rfl) rfl (fun X C hret => ?_)
  unfold fX3_payableHours at hf
  refine g_iconst C dX3_payableHours_0 ic_0 ?_
  refine g_istore_n C [1, 2, 0] dX3_payableHours_1 rfl (Nat.le_of_ble_eq_true rfl) rfl ?_
  refine g_iconst C dX3_payableHours_2 ic_0 ?_
  refine g_istore_n C [1, 2, 3, 0] dX3_payableHours_3 rfl (Nat.le_of_ble_eq_true rfl) rfl ?_
  refine lX3_payableHours_4_ok σ v a1 C hret (fun y7 hf => ?_) FU (0 : Int32) (0 : Int32) hf
  refine g_iload_n C 0 dX3_payableHours_36 rfl rfl ?_
  exact g_reti hf hret dX3_payableHours_37
/-! X3_provesOut -/
theorem in_X3_provesOut_X3 : ∀ q ∈ u_ws RX3 TX3 11, q ∈ wsX3_provesOut := by decide +kernel
theorem lk_X3_provesOut_0 : Cond.fieldLink RX3 18 "EmptyHouse$Village" "law" "I" ∈ wsX3_provesOut := by decide +kernel
theorem lk_X3_provesOut_1 : Cond.fieldLink RX3 21 "EmptyHouse$Village" "kind" "[I" ∈ wsX3_provesOut := by decide +kernel
theorem lk_X3_provesOut_2 : Cond.fieldLink RX3 25 "EmptyHouse$Village" "mate" "[I" ∈ wsX3_provesOut := by decide +kernel
theorem ddX3_provesOut : yX3_provesOut.cls = RX3 ∧ yX3_provesOut.cls ≠ "java/lang/invoke/MethodHandle" ∧ yX3_provesOut.cls ≠ "java/lang/invoke/VarHandle" ∧ (parseMethodDescriptor yX3_provesOut.desc).map (fun d => d.parameters.length) = some 2 := by decide +kernel
set_option maxHeartbeats 4000000 in
set_option maxRecDepth 100000 in
theorem mX3_provesOut (l0 : Launch) (D0 : va_G) (K0 : Nat → ClassId) (h : Nat → Nat) (σ : pS) (v : Nat) (a1 : Int32) (a2 : Int32) {r : Int32} (hf : fX3_provesOut σ v a1 a2 = some r) : Met l0 yX3_provesOut wsX3_provesOut ({ frames := 0, cells := 0, slots := 0, locals := 0 } : Room) (va_Pc [.ref (h v), .int a1, .int a2] (pIn wX D0 K0 h σ)) (va_Qi (fun r' u' => r' = r ∧ u' = σ) (pOut wX D0 K0 h) (pA wX h)) 0 0 (pA wX h) := by
  refine p_metZ (lv := [(0, .ref (h v)), (1, .int a1), (2, .int a2)]) (by decide +kernel) rfl rfl (Nat.le_of_ble_eq_true rfl) rfl (fun X C hret => ?_)
  unfold fX3_provesOut at hf
  refine g_aload_n C 0 dX3_provesOut_0 rfl rfl ?_
  obtain ⟨hg1, hf⟩ := g_guard hf
  refine g_getI C in_X3_provesOut_X3 (k := 2) lk_X3_provesOut_0 rfl (Nat.le_of_ble_eq_true rfl) (shV hg1) (ltV hg1) rfl dX3_provesOut_1 ?_
  refine g_iconst C dX3_provesOut_4 ic_3 ?_
  refine g_icmp_eq (tgt := 28) hf C dX3_provesOut_5 (by decide) (fun hf => ?_) (fun hf => ?_)
  · refine g_iconst C dX3_provesOut_28 ic_0 ?_
    exact g_retz hf (by decide) hret dX3_provesOut_29
  · refine g_aload_n C 0 dX3_provesOut_8 rfl rfl ?_
    refine g_getC (n := v + 1) C in_X3_provesOut_X3 (k := 3) lk_X3_provesOut_1 rfl (Nat.le_of_ble_eq_true rfl) (shV hg1) (ltV hg1) rfl dX3_provesOut_9 ?_
    refine g_iload_n C 1 dX3_provesOut_12 rfl rfl ?_
    refine g_iald hf C (shV1 hg1).1 (shV1 hg1).2 dX3_provesOut_13 (fun hf => ?_)
    refine g_iconst C dX3_provesOut_14 ic_2 ?_
    refine g_icmp_eq (tgt := 28) hf C dX3_provesOut_15 (by decide) (fun hf => ?_) (fun hf => ?_)
    · refine g_iconst C dX3_provesOut_28 ic_0 ?_
      exact g_retz hf (by decide) hret dX3_provesOut_29
    · refine g_aload_n C 0 dX3_provesOut_18 rfl rfl ?_
      refine g_getC (n := v + 1) C in_X3_provesOut_X3 (k := 3) lk_X3_provesOut_1 rfl (Nat.le_of_ble_eq_true rfl) (shV hg1) (ltV hg1) rfl dX3_provesOut_19 ?_
      refine g_iload_n C 1 dX3_provesOut_22 rfl rfl ?_
      refine g_iald hf C (shV1 hg1).1 (shV1 hg1).2 dX3_provesOut_23 (fun hf => ?_)
      refine g_iconst C dX3_provesOut_24 ic_4 ?_
      refine g_icmp_ne (tgt := 30) hf C dX3_provesOut_25 (by decide) (fun hf => ?_) (fun hf => ?_)
      · refine g_iload_n C 1 dX3_provesOut_30 rfl rfl ?_
        refine g_iload_n C 2 dX3_provesOut_31 rfl rfl ?_
        refine g_icmp_eq (tgt := 55) hf C dX3_provesOut_32 (by decide) (fun hf => ?_) (fun hf => ?_)
        · refine g_iconst C dX3_provesOut_55 ic_1 ?_
          refine g_goto (tgt := 60) C dX3_provesOut_56 (by decide) ?_
          exact g_retz hf (by decide) hret dX3_provesOut_60
        · refine g_aload_n C 0 dX3_provesOut_35 rfl rfl ?_
          refine g_getC (n := v + 1) C in_X3_provesOut_X3 (k := 3) lk_X3_provesOut_1 rfl (Nat.le_of_ble_eq_true rfl) (shV hg1) (ltV hg1) rfl dX3_provesOut_36 ?_
          refine g_iload_n C 1 dX3_provesOut_39 rfl rfl ?_
          refine g_iald hf C (shV1 hg1).1 (shV1 hg1).2 dX3_provesOut_40 (fun hf => ?_)
          refine g_iconst C dX3_provesOut_41 ic_3 ?_
          refine g_icmp_ne (tgt := 59) hf C dX3_provesOut_42 (by decide) (fun hf => ?_) (fun hf => ?_)
          · refine g_iconst C dX3_provesOut_59 ic_0 ?_
            exact g_retz hf (by decide) hret dX3_provesOut_60
          · refine g_aload_n C 0 dX3_provesOut_45 rfl rfl ?_
            refine g_getC (n := v + 2) C in_X3_provesOut_X3 (k := 4) lk_X3_provesOut_2 rfl (Nat.le_of_ble_eq_true rfl) (shV hg1) (ltV hg1) rfl dX3_provesOut_46 ?_
            refine g_iload_n C 1 dX3_provesOut_49 rfl rfl ?_
            refine g_iald hf C (shV2 hg1).1 (shV2 hg1).2 dX3_provesOut_50 (fun hf => ?_)
            refine g_iload_n C 2 dX3_provesOut_51 rfl rfl ?_
            refine g_icmp_ne (tgt := 59) hf C dX3_provesOut_52 (by decide) (fun hf => ?_) (fun hf => ?_)
            · refine g_iconst C dX3_provesOut_59 ic_0 ?_
              exact g_retz hf (by decide) hret dX3_provesOut_60
            · refine g_iconst C dX3_provesOut_55 ic_1 ?_
              refine g_goto (tgt := 60) C dX3_provesOut_56 (by decide) ?_
              exact g_retz hf (by decide) hret dX3_provesOut_60
      · refine g_iconst C dX3_provesOut_28 ic_0 ?_
        exact g_retz hf (by decide) hret dX3_provesOut_29
/-! X3_oweOneAnother -/
theorem in_X3_oweOneAnother_X3 : ∀ q ∈ u_ws RX3 TX3 11, q ∈ wsX3_oweOneAnother := by decide +kernel
theorem lk_X3_oweOneAnother_0 : Cond.fieldLink RX3 34 "EmptyHouse$Village" "debtor" "[I" ∈ wsX3_oweOneAnother := by decide +kernel
theorem lk_X3_oweOneAnother_1 : Cond.fieldLink RX3 37 "EmptyHouse$Village" "creditor" "[I" ∈ wsX3_oweOneAnother := by decide +kernel
theorem ddX3_oweOneAnother : yX3_oweOneAnother.cls = RX3 ∧ yX3_oweOneAnother.cls ≠ "java/lang/invoke/MethodHandle" ∧ yX3_oweOneAnother.cls ≠ "java/lang/invoke/VarHandle" ∧ (parseMethodDescriptor yX3_oweOneAnother.desc).map (fun d => d.parameters.length) = some 2 := by decide +kernel
set_option maxHeartbeats 4000000 in
set_option maxRecDepth 100000 in
theorem mX3_oweOneAnother (l0 : Launch) (D0 : va_G) (K0 : Nat → ClassId) (h : Nat → Nat) (σ : pS) (v : Nat) (a1 : Int32) (a2 : Int32) {r : Int32} (hf : fX3_oweOneAnother σ v a1 a2 = some r) : Met l0 yX3_oweOneAnother wsX3_oweOneAnother ({ frames := 0, cells := 0, slots := 0, locals := 0 } : Room) (va_Pc [.ref (h v), .int a1, .int a2] (pIn wX D0 K0 h σ)) (va_Qi (fun r' u' => r' = r ∧ u' = σ) (pOut wX D0 K0 h) (pA wX h)) 0 0 (pA wX h) := by
  refine p_metZ (lv := [(0, .ref (h v)), (1, .int a1), (2, .int a2)]) (by decide +kernel) rfl rfl (Nat.le_of_ble_eq_true rfl) rfl (fun X C hret => ?_)
  unfold fX3_oweOneAnother at hf
  refine g_aload_n C 0 dX3_oweOneAnother_0 rfl rfl ?_
  obtain ⟨hg1, hf⟩ := g_guard hf
  refine g_getC (n := v + 5) C in_X3_oweOneAnother_X3 (k := 7) lk_X3_oweOneAnother_0 rfl (Nat.le_of_ble_eq_true rfl) (shV hg1) (ltV hg1) rfl dX3_oweOneAnother_1 ?_
  refine g_iload_n C 1 dX3_oweOneAnother_4 rfl rfl ?_
  refine g_iald hf C (shV5 hg1).1 (shV5 hg1).2 dX3_oweOneAnother_5 (fun hf => ?_)
  refine g_aload_n C 0 dX3_oweOneAnother_6 rfl rfl ?_
  refine g_getC (n := v + 6) C in_X3_oweOneAnother_X3 (k := 8) lk_X3_oweOneAnother_1 rfl (Nat.le_of_ble_eq_true rfl) (shV hg1) (ltV hg1) rfl dX3_oweOneAnother_7 ?_
  refine g_iload_n C 2 dX3_oweOneAnother_10 rfl rfl ?_
  refine g_iald hf C (shV6 hg1).1 (shV6 hg1).2 dX3_oweOneAnother_11 (fun hf => ?_)
  refine g_icmp_ne (tgt := 34) hf C dX3_oweOneAnother_12 (by decide) (fun hf => ?_) (fun hf => ?_)
  · refine g_iconst C dX3_oweOneAnother_34 ic_0 ?_
    exact g_retz hf (by decide) hret dX3_oweOneAnother_35
  · refine g_aload_n C 0 dX3_oweOneAnother_15 rfl rfl ?_
    refine g_getC (n := v + 6) C in_X3_oweOneAnother_X3 (k := 8) lk_X3_oweOneAnother_1 rfl (Nat.le_of_ble_eq_true rfl) (shV hg1) (ltV hg1) rfl dX3_oweOneAnother_16 ?_
    refine g_iload_n C 1 dX3_oweOneAnother_19 rfl rfl ?_
    refine g_iald hf C (shV6 hg1).1 (shV6 hg1).2 dX3_oweOneAnother_20 (fun hf => ?_)
    refine g_aload_n C 0 dX3_oweOneAnother_21 rfl rfl ?_
    refine g_getC (n := v + 5) C in_X3_oweOneAnother_X3 (k := 7) lk_X3_oweOneAnother_0 rfl (Nat.le_of_ble_eq_true rfl) (shV hg1) (ltV hg1) rfl dX3_oweOneAnother_22 ?_
    refine g_iload_n C 2 dX3_oweOneAnother_25 rfl rfl ?_
    refine g_iald hf C (shV5 hg1).1 (shV5 hg1).2 dX3_oweOneAnother_26 (fun hf => ?_)
    refine g_icmp_ne (tgt := 34) hf C dX3_oweOneAnother_27 (by decide) (fun hf => ?_) (fun hf => ?_)
    · refine g_iconst C dX3_oweOneAnother_34 ic_0 ?_
      exact g_retz hf (by decide) hret dX3_oweOneAnother_35
    · refine g_iconst C dX3_oweOneAnother_30 ic_1 ?_
      refine g_goto (tgt := 35) C dX3_oweOneAnother_31 (by decide) ?_
      exact g_retz hf (by decide) hret dX3_oweOneAnother_35
/-! X3_allValues -/
theorem in_X3_allValues_X3 : ∀ q ∈ u_ws RX3 TX3 11, q ∈ wsX3_allValues := by decide +kernel
theorem lk_X3_allValues_0 : Cond.fieldLink RX3 15 "EmptyHouse$Village" "debts" "I" ∈ wsX3_allValues := by decide +kernel
theorem lk_X3_allValues_1 : Cond.fieldLink RX3 40 "EmptyHouse$Village" "value" "[I" ∈ wsX3_allValues := by decide +kernel
theorem ddX3_allValues : yX3_allValues.cls = RX3 ∧ yX3_allValues.cls ≠ "java/lang/invoke/MethodHandle" ∧ yX3_allValues.cls ≠ "java/lang/invoke/VarHandle" ∧ (parseMethodDescriptor yX3_allValues.desc).map (fun d => d.parameters.length) = some 0 := by decide +kernel
set_option maxHeartbeats 4000000 in
set_option maxRecDepth 100000 in
theorem lX3_allValues_4_ok {h : Nat → Nat} {X : Cx} {l0 : Launch} {D0 : va_G} {K0 : Nat → ClassId} (σ : pS) (p0 : Nat) {k27 : Int32 → Option Int32} {r : Int32} (C : Cok wX h X l0 ({ frames := 0, cells := 0, slots := 0, locals := 0 } : Room) D0 K0 cX3_allValues 3 RX3 wsX3_allValues) (hret : ∀ (pc : Nat) (lv' : List (Nat × Value)), decode cX3_allValues pc = .ok (.ireturn, 1) → G wX h X pc lv' [.int r] σ) (hk27 : ∀ (z1 : Int32), k27 z1 = some r → G wX h X 27 [(1, .int z1)] [] σ) : ∀ (F : Nat) (v1 : Int32) (v2 : Int32), lX3_allValues_4 σ p0 k27 F v1 v2 = some r → G wX h X 4 [(0, .ref (h p0)), (1, .int v1), (2, .int v2)] [] σ := by
  intro F
  induction F with
  | zero => intro v1 v2 hf; exact absurd hf (by simp [lX3_allValues_4])
  | succ F ih =>
    intro v1 v2 hf
    rw [lX3_allValues_4.eq_2] at hf
    refine g_iload_n C 2 dX3_allValues_4 rfl rfl ?_
    refine g_aload_n C 0 dX3_allValues_5 rfl rfl ?_
    obtain ⟨hg1, hf⟩ := g_guard hf
    refine g_getI C in_X3_allValues_X3 (k := 1) lk_X3_allValues_0 rfl (Nat.le_of_ble_eq_true rfl) (shV hg1) (ltV hg1) rfl dX3_allValues_6 ?_
    refine g_icmp_ge (tgt := 27) hf C dX3_allValues_9 (by decide) (fun hf => ?_) (fun hf => ?_)
    · refine g_lv [1] rfl ?_
      exact hk27 v1 hf
    · refine g_iload_n C 1 dX3_allValues_12 rfl rfl ?_
      refine g_aload_n C 0 dX3_allValues_13 rfl rfl ?_
      refine g_getC (n := p0 + 7) C in_X3_allValues_X3 (k := 9) lk_X3_allValues_1 rfl (Nat.le_of_ble_eq_true rfl) (shV hg1) (ltV hg1) rfl dX3_allValues_14 ?_
      refine g_iload_n C 2 dX3_allValues_17 rfl rfl ?_
      refine g_iald hf C (shV7 hg1).1 (shV7 hg1).2 dX3_allValues_18 (fun hf => ?_)
      refine g_iadd C dX3_allValues_19 ?_
      refine g_leti hf (fun x2 hf => ?_)
      refine g_istore_n C [1, 0, 2] dX3_allValues_20 rfl (Nat.le_of_ble_eq_true rfl) rfl ?_
      refine g_iinc C 2 [1, 2, 0] dX3_allValues_21 rfl ic_1 (Nat.le_of_ble_eq_true rfl) rfl ?_
      refine g_goto (tgt := 4) C dX3_allValues_24 (by decide) ?_
      exact ih x2 (v2 + (1 : Int32)) hf
set_option maxHeartbeats 4000000 in
set_option maxRecDepth 100000 in
theorem mX3_allValues (l0 : Launch) (D0 : va_G) (K0 : Nat → ClassId) (h : Nat → Nat) (σ : pS) (v : Nat) {r : Int32} (hf : fX3_allValues σ v = some r) : Met l0 yX3_allValues wsX3_allValues ({ frames := 0, cells := 0, slots := 0, locals := 0 } : Room) (va_Pc [.ref (h v)] (pIn wX D0 K0 h σ)) (va_Qi (fun r' u' => r' = r ∧ u' = σ) (pOut wX D0 K0 h) (pA wX h)) 0 0 (pA wX h) := by
  refine p_metI (lv := [(0, .ref (h v))]) (by decide +kernel) rfl rfl (Nat.le_of_ble_eq_true rfl) rfl (fun X C hret => ?_)
  unfold fX3_allValues at hf
  refine g_iconst C dX3_allValues_0 ic_0 ?_
  refine g_istore_n C [1, 0] dX3_allValues_1 rfl (Nat.le_of_ble_eq_true rfl) rfl ?_
  refine g_iconst C dX3_allValues_2 ic_0 ?_
  refine g_istore_n C [1, 2, 0] dX3_allValues_3 rfl (Nat.le_of_ble_eq_true rfl) rfl ?_
  refine lX3_allValues_4_ok σ v C hret (fun y3 hf => ?_) FU (0 : Int32) (0 : Int32) hf
  refine g_iload_n C 0 dX3_allValues_27 rfl rfl ?_
  exact g_reti hf hret dX3_allValues_28
/-! X3_owedBy -/
theorem in_X3_owedBy_X3 : ∀ q ∈ u_ws RX3 TX3 11, q ∈ wsX3_owedBy := by decide +kernel
theorem lk_X3_owedBy_0 : Cond.fieldLink RX3 15 "EmptyHouse$Village" "debts" "I" ∈ wsX3_owedBy := by decide +kernel
theorem lk_X3_owedBy_1 : Cond.fieldLink RX3 34 "EmptyHouse$Village" "debtor" "[I" ∈ wsX3_owedBy := by decide +kernel
theorem lk_X3_owedBy_2 : Cond.fieldLink RX3 37 "EmptyHouse$Village" "creditor" "[I" ∈ wsX3_owedBy := by decide +kernel
theorem ddX3_owedBy : yX3_owedBy.cls = RX3 ∧ yX3_owedBy.cls ≠ "java/lang/invoke/MethodHandle" ∧ yX3_owedBy.cls ≠ "java/lang/invoke/VarHandle" ∧ (parseMethodDescriptor yX3_owedBy.desc).map (fun d => d.parameters.length) = some 1 := by decide +kernel
set_option maxHeartbeats 4000000 in
set_option maxRecDepth 100000 in
theorem lX3_owedBy_4_ok {h : Nat → Nat} {X : Cx} {l0 : Launch} {D0 : va_G} {K0 : Nat → ClassId} (σ : pS) (p0 : Nat) (p1 : Int32) {k42 : Int32 → Option Int32} {r : Int32} (C : Cok wX h X l0 ({ frames := 1, cells := 0, slots := 0, locals := 21 } : Room) D0 K0 cX3_owedBy 4 RX3 wsX3_owedBy) (hret : ∀ (pc : Nat) (lv' : List (Nat × Value)), decode cX3_owedBy pc = .ok (.ireturn, 1) → G wX h X pc lv' [.int r] σ) (hk42 : ∀ (z2 : Int32), k42 z2 = some r → G wX h X 42 [(2, .int z2)] [] σ) : ∀ (F : Nat) (v2 : Int32) (v3 : Int32), lX3_owedBy_4 σ p0 p1 k42 F v2 v3 = some r → G wX h X 4 [(0, .ref (h p0)), (1, .int p1), (2, .int v2), (3, .int v3)] [] σ := by
  intro F
  induction F with
  | zero => intro v2 v3 hf; exact absurd hf (by simp [lX3_owedBy_4])
  | succ F ih =>
    intro v2 v3 hf
    rw [lX3_owedBy_4.eq_2] at hf
    refine g_iload_n C 3 dX3_owedBy_4 rfl rfl ?_
    refine g_aload_n C 0 dX3_owedBy_5 rfl rfl ?_
    obtain ⟨hg1, hf⟩ := g_guard hf
    refine g_getI C in_X3_owedBy_X3 (k := 1) lk_X3_owedBy_0 rfl (Nat.le_of_ble_eq_true rfl) (shV hg1) (ltV hg1) rfl dX3_owedBy_6 ?_
    refine g_icmp_ge (tgt := 42) hf C dX3_owedBy_9 (by decide) (fun hf => ?_) (fun hf => ?_)
    · refine g_lv [2] rfl ?_
      exact hk42 v2 hf
    · refine g_iload_n C 1 dX3_owedBy_12 rfl rfl ?_
      refine g_aload_n C 0 dX3_owedBy_13 rfl rfl ?_
      refine g_getC (n := p0 + 5) C in_X3_owedBy_X3 (k := 7) lk_X3_owedBy_1 rfl (Nat.le_of_ble_eq_true rfl) (shV hg1) (ltV hg1) rfl dX3_owedBy_14 ?_
      refine g_iload_n C 3 dX3_owedBy_17 rfl rfl ?_
      refine g_iald hf C (shV5 hg1).1 (shV5 hg1).2 dX3_owedBy_18 (fun hf => ?_)
      obtain ⟨r3, hc2, hf⟩ := g_bind hf
      refine g_callSi C (mX3_holds l0 D0 K0 h σ p1 (pI σ (p0 + 5) (v3).toNatClampNeg) hc2) gX3_owedBy_X3_holds rfl rfl rfl ddX3_holds ⟨(Nat.le_of_ble_eq_true rfl), (Nat.le_of_ble_eq_true rfl)⟩ rfl rfl (Nat.le_of_ble_eq_true rfl) dX3_owedBy_19 ?_
      refine g_if_eq (tgt := 36) hf C dX3_owedBy_22 (by decide) (fun hf => ?_) (fun hf => ?_)
      · refine g_iinc C 3 [1, 2, 3, 0] dX3_owedBy_36 rfl ic_1 (Nat.le_of_ble_eq_true rfl) rfl ?_
        refine g_goto (tgt := 4) C dX3_owedBy_39 (by decide) ?_
        exact ih v2 (v3 + (1 : Int32)) hf
      · refine g_iload_n C 2 dX3_owedBy_25 rfl rfl ?_
        refine g_iconst C dX3_owedBy_26 ic_1 ?_
        refine g_aload_n C 0 dX3_owedBy_27 rfl rfl ?_
        refine g_getC (n := p0 + 6) C in_X3_owedBy_X3 (k := 8) lk_X3_owedBy_2 rfl (Nat.le_of_ble_eq_true rfl) (shV hg1) (ltV hg1) rfl dX3_owedBy_28 ?_
        refine g_iload_n C 3 dX3_owedBy_31 rfl rfl ?_
        refine g_iald hf C (shV6 hg1).1 (shV6 hg1).2 dX3_owedBy_32 (fun hf => ?_)
        refine g_ishl C dX3_owedBy_33 ?_
        refine g_ior C dX3_owedBy_34 ?_
        refine g_leti hf (fun x4 hf => ?_)
        refine g_istore_n C [1, 2, 0, 3] dX3_owedBy_35 rfl (Nat.le_of_ble_eq_true rfl) rfl ?_
        refine g_iinc C 3 [1, 2, 3, 0] dX3_owedBy_36 rfl ic_1 (Nat.le_of_ble_eq_true rfl) rfl ?_
        refine g_goto (tgt := 4) C dX3_owedBy_39 (by decide) ?_
        exact ih x4 (v3 + (1 : Int32)) hf
set_option maxHeartbeats 4000000 in
set_option maxRecDepth 100000 in
theorem mX3_owedBy (l0 : Launch) (D0 : va_G) (K0 : Nat → ClassId) (h : Nat → Nat) (σ : pS) (v : Nat) (a1 : Int32) {r : Int32} (hf : fX3_owedBy σ v a1 = some r) : Met l0 yX3_owedBy wsX3_owedBy ({ frames := 1, cells := 0, slots := 0, locals := 21 } : Room) (va_Pc [.ref (h v), .int a1] (pIn wX D0 K0 h σ)) (va_Qi (fun r' u' => r' = r ∧ u' = σ) (pOut wX D0 K0 h) (pA wX h)) 0 0 (pA wX h) := by
  refine p_metI (lv := [(0, .ref (h v)), (1, .int a1)]) (by decide +kernel) rfl rfl (Nat.le_of_ble_eq_true rfl) rfl (fun X C hret => ?_)
  unfold fX3_owedBy at hf
  refine g_iconst C dX3_owedBy_0 ic_0 ?_
  refine g_istore_n C [1, 2, 0] dX3_owedBy_1 rfl (Nat.le_of_ble_eq_true rfl) rfl ?_
  refine g_iconst C dX3_owedBy_2 ic_0 ?_
  refine g_istore_n C [1, 2, 3, 0] dX3_owedBy_3 rfl (Nat.le_of_ble_eq_true rfl) rfl ?_
  refine lX3_owedBy_4_ok σ v a1 C hret (fun y5 hf => ?_) FU (0 : Int32) (0 : Int32) hf
  refine g_iload_n C 0 dX3_owedBy_42 rfl rfl ?_
  exact g_reti hf hret dX3_owedBy_43
/-! X3_smallestRing -/
theorem in_X3_smallestRing_X3 : ∀ q ∈ u_ws RX3 TX3 11, q ∈ wsX3_smallestRing := by decide +kernel
theorem lk_X3_smallestRing_0 : Cond.fieldLink RX3 9 "EmptyHouse$Village" "people" "I" ∈ wsX3_smallestRing := by decide +kernel
theorem ddX3_smallestRing : yX3_smallestRing.cls = RX3 ∧ yX3_smallestRing.cls ≠ "java/lang/invoke/MethodHandle" ∧ yX3_smallestRing.cls ≠ "java/lang/invoke/VarHandle" ∧ (parseMethodDescriptor yX3_smallestRing.desc).map (fun d => d.parameters.length) = some 1 := by decide +kernel
set_option maxHeartbeats 4000000 in
set_option maxRecDepth 100000 in
theorem lX3_smallestRing_6_ok {h : Nat → Nat} {X : Cx} {l0 : Launch} {D0 : va_G} {K0 : Nat → ClassId} (σ : pS) (p0 : Nat) (p1 : Int32) {k36 : Option Int32} {r : Int32} (C : Cok wX h X l0 ({ frames := 2, cells := 0, slots := 0, locals := 44 } : Room) D0 K0 cX3_smallestRing 4 RX3 wsX3_smallestRing) (hret : ∀ (pc : Nat) (lv' : List (Nat × Value)), decode cX3_smallestRing pc = .ok (.ireturn, 1) → G wX h X pc lv' [.int r] σ) (hk36 :  k36 = some r → G wX h X 36 [] [] σ) : ∀ (F : Nat) (v2 : Int32) (v3 : Int32), lX3_smallestRing_6 σ p0 p1 k36 F v2 v3 = some r → G wX h X 6 [(0, .ref (h p0)), (1, .int p1), (2, .int v2), (3, .int v3)] [] σ := by
  intro F
  induction F with
  | zero => intro v2 v3 hf; exact absurd hf (by simp [lX3_smallestRing_6])
  | succ F ih =>
    intro v2 v3 hf
    rw [lX3_smallestRing_6.eq_2] at hf
    refine g_iload_n C 3 dX3_smallestRing_6 rfl rfl ?_
    refine g_aload_n C 0 dX3_smallestRing_7 rfl rfl ?_
    obtain ⟨hg2, hf⟩ := g_guard hf
    refine g_getI C in_X3_smallestRing_X3 (k := 0) lk_X3_smallestRing_0 rfl (Nat.le_of_ble_eq_true rfl) (shV hg2) (ltV hg2) rfl dX3_smallestRing_8 ?_
    refine g_icmp_gt (tgt := 36) hf C dX3_smallestRing_11 (by decide) (fun hf => ?_) (fun hf => ?_)
    · refine g_lv [] rfl ?_
      exact hk36 hf
    · refine g_aload_n C 0 dX3_smallestRing_14 rfl rfl ?_
      refine g_iload_n C 2 dX3_smallestRing_15 rfl rfl ?_
      obtain ⟨r4, hc3, hf⟩ := g_bind hf
      refine g_callVi C (mX3_owedBy l0 D0 K0 h σ p0 v2 hc3) gX3_smallestRing_X3_owedBy rfl rfl rfl ddX3_owedBy ⟨(Nat.le_of_ble_eq_true rfl), (Nat.le_of_ble_eq_true rfl)⟩ (shV hg2) (ltV hg2) rfl rfl rfl (Nat.le_of_ble_eq_true rfl) dX3_smallestRing_16 ?_
      refine g_istore_n C [1, 2, 0, 3] dX3_smallestRing_19 rfl (Nat.le_of_ble_eq_true rfl) rfl ?_
      refine g_iload_n C 2 dX3_smallestRing_20 rfl rfl ?_
      refine g_iload_n C 1 dX3_smallestRing_21 rfl rfl ?_
      obtain ⟨r6, hc5, hf⟩ := g_bind hf
      refine g_callSi C (mX3_holds l0 D0 K0 h σ r4 p1 hc5) gX3_smallestRing_X3_holds rfl rfl rfl ddX3_holds ⟨(Nat.le_of_ble_eq_true rfl), (Nat.le_of_ble_eq_true rfl)⟩ rfl rfl (Nat.le_of_ble_eq_true rfl) dX3_smallestRing_22 ?_
      refine g_if_eq (tgt := 30) hf C dX3_smallestRing_25 (by decide) (fun hf => ?_) (fun hf => ?_)
      · refine g_iinc C 3 [1, 2, 3, 0] dX3_smallestRing_30 rfl ic_1 (Nat.le_of_ble_eq_true rfl) rfl ?_
        refine g_goto (tgt := 6) C dX3_smallestRing_33 (by decide) ?_
        exact ih r4 (v3 + (1 : Int32)) hf
      · refine g_iload_n C 3 dX3_smallestRing_28 rfl rfl ?_
        exact g_reti hf hret dX3_smallestRing_29
set_option maxHeartbeats 4000000 in
set_option maxRecDepth 100000 in
theorem mX3_smallestRing (l0 : Launch) (D0 : va_G) (K0 : Nat → ClassId) (h : Nat → Nat) (σ : pS) (v : Nat) (a1 : Int32) {r : Int32} (hf : fX3_smallestRing σ v a1 = some r) : Met l0 yX3_smallestRing wsX3_smallestRing ({ frames := 2, cells := 0, slots := 0, locals := 44 } : Room) (va_Pc [.ref (h v), .int a1] (pIn wX D0 K0 h σ)) (va_Qi (fun r' u' => r' = r ∧ u' = σ) (pOut wX D0 K0 h) (pA wX h)) 0 0 (pA wX h) := by
  refine p_metI (lv := [(0, .ref (h v)), (1, .int a1)]) (by decide +kernel) rfl rfl (Nat.le_of_ble_eq_true rfl) rfl (fun X C hret => ?_)
  unfold fX3_smallestRing at hf
  refine g_iconst C dX3_smallestRing_0 ic_1 ?_
  refine g_iload_n C 1 dX3_smallestRing_1 rfl rfl ?_
  refine g_ishl C dX3_smallestRing_2 ?_
  refine g_leti hf (fun x1 hf => ?_)
  refine g_istore_n C [1, 2, 0] dX3_smallestRing_3 rfl (Nat.le_of_ble_eq_true rfl) rfl ?_
  refine g_iconst C dX3_smallestRing_4 ic_1 ?_
  refine g_istore_n C [1, 2, 3, 0] dX3_smallestRing_5 rfl (Nat.le_of_ble_eq_true rfl) rfl ?_
  refine lX3_smallestRing_6_ok σ v a1 C hret (fun hf => ?_) FU x1 (1 : Int32) hf
  refine g_iconst C dX3_smallestRing_36 ic_0 ?_
  exact g_reti hf hret dX3_smallestRing_37
/-! J7_fill_031fb -/
theorem ddJ7_fill_031fb : yJ7_fill_031fb.cls ≠ "java/lang/invoke/MethodHandle" ∧ yJ7_fill_031fb.cls ≠ "java/lang/invoke/VarHandle" ∧ (parseMethodDescriptor yJ7_fill_031fb.desc).map (fun d => d.parameters.length) = some 2 := by decide +kernel
set_option maxHeartbeats 4000000 in
set_option maxRecDepth 100000 in
theorem lJ7_fill_031fb_5_ok {h : Nat → Nat} {X : Cx} {l0 : Launch} {D0 : va_G} {K0 : Nat → ClassId} (p0 : Nat) (p1 : Int32) (p3 : Int32) {k20 : pS → Option (Unit × pS)} {r : Unit} {u : pS} (C : Cok wX h X l0 ({ frames := 0, cells := 0, slots := 0, locals := 0 } : Room) D0 K0 cJ7_fill_031fb 4 RJ7 wsJ7_fill_031fb) (hret : ∀ (pc : Nat) (lv' : List (Nat × Value)), decode cJ7_fill_031fb pc = .ok (.return_, 1) → G wX h X pc lv' [] u) (hk20 : ∀  (σ : pS), k20 σ = some (r, u) → G wX h X 20 [] [] σ) : ∀ (F : Nat) (v2 : Int32) (σ : pS), lJ7_fill_031fb_5 p0 p1 p3 k20 F v2 σ = some (r, u) → G wX h X 5 [(0, .ref (h p0)), (1, .int p1), (2, .int v2), (3, .int p3)] [] σ := by
  intro F
  induction F with
  | zero => intro v2 σ hf; exact absurd hf (by simp [lJ7_fill_031fb_5])
  | succ F ih =>
    intro v2 σ hf
    rw [lJ7_fill_031fb_5.eq_2] at hf
    refine g_iload_n C 2 dJ7_fill_031fb_5 rfl rfl ?_
    refine g_iload_n C 3 dJ7_fill_031fb_6 rfl rfl ?_
    refine g_icmp_ge (tgt := 20) hf C dJ7_fill_031fb_7 (by decide) (fun hf => ?_) (fun hf => ?_)
    · refine g_lv [] rfl ?_
      exact hk20 σ hf
    · refine g_aload_n C 0 dJ7_fill_031fb_10 rfl rfl ?_
      refine g_iload_n C 2 dJ7_fill_031fb_11 rfl rfl ?_
      refine g_iload_n C 1 dJ7_fill_031fb_12 rfl rfl ?_
      obtain ⟨hg6, hf⟩ := g_guard hf
      obtain ⟨b7, he8, hl9⟩ := isA_spec hg6
      refine g_bast hf C he8 hl9 dJ7_fill_031fb_13 (fun hf => ?_)
      refine g_lets hf (fun σ10 hf => ?_)
      refine g_iinc C 2 [1, 2, 0, 3] dJ7_fill_031fb_14 rfl ic_1 (Nat.le_of_ble_eq_true rfl) rfl ?_
      refine g_goto (tgt := 5) C dJ7_fill_031fb_17 (by decide) ?_
      exact ih (v2 + (1 : Int32)) σ10 hf
set_option maxHeartbeats 4000000 in
set_option maxRecDepth 100000 in
theorem mJ7_fill_031fb (l0 : Launch) (D0 : va_G) (K0 : Nat → ClassId) (h : Nat → Nat) (σ : pS) (a1 : Nat) (a2 : Int32) {r : Unit} {u : pS} (hf : fJ7_fill_031fb σ a1 a2 = some (r, u)) : Met l0 yJ7_fill_031fb wsJ7_fill_031fb ({ frames := 0, cells := 0, slots := 0, locals := 0 } : Room) (va_Pc [.ref (h a1), .int a2] (pIn wX D0 K0 h σ)) (va_Qv (fun u' => u' = u) (pOut wX D0 K0 h) (pA wX h)) 0 0 (pA wX h) := by
  refine p_metV (lv := [(0, .ref (h a1)), (1, .int a2)]) (by decide +kernel) rfl rfl (Nat.le_of_ble_eq_true rfl) rfl (fun X C hret => ?_)
  unfold fJ7_fill_031fb at hf
  refine g_iconst C dJ7_fill_031fb_0 ic_0 ?_
  refine g_istore_n C [1, 2, 0] dJ7_fill_031fb_1 rfl (Nat.le_of_ble_eq_true rfl) rfl ?_
  refine g_aload_n C 0 dJ7_fill_031fb_2 rfl rfl ?_
  obtain ⟨hg1, hf⟩ := g_guard hf
  obtain ⟨b2, he3, hl4⟩ := isA_spec hg1
  refine g_alen C he3 hl4 rfl dJ7_fill_031fb_3 ?_
  refine g_leti hf (fun x5 hf => ?_)
  refine g_istore_n C [1, 2, 3, 0] dJ7_fill_031fb_4 rfl (Nat.le_of_ble_eq_true rfl) rfl ?_
  refine lJ7_fill_031fb_5_ok a1 a2 x5 C hret (fun σ11 hf => ?_) FU (0 : Int32) σ hf
  exact g_retvW hf hret dJ7_fill_031fb_20
