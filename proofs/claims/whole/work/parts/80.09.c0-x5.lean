/-! X5_in -/
theorem ddX5_in : yX5_in.cls ≠ "java/lang/invoke/MethodHandle" ∧ yX5_in.cls ≠ "java/lang/invoke/VarHandle" ∧ (parseMethodDescriptor yX5_in.desc).map (fun d => d.parameters.length) = some 3 := by decide +kernel
set_option maxHeartbeats 4000000 in
set_option maxRecDepth 100000 in
theorem mX5_in (l0 : Launch) (D0 : va_G) (K0 : Nat → ClassId) (h : Nat → Nat) (σ : pS) (a1 : Int32) (a2 : Int32) (a3 : Int32) {r : Int32} (hf : fX5_in a1 a2 a3 = some r) : Met l0 yX5_in wsX5_in ({ frames := 0, cells := 0, slots := 0, locals := 0 } : Room) (va_Pc [.int a1, .int a2, .int a3] (pIn wM D0 K0 h σ)) (va_Qi (fun r' u' => r' = r ∧ u' = σ) (pOut wM D0 K0 h) (pA wM h)) 0 0 (pA wM h) := by
  refine p_metZ (lv := [(0, .int a1), (1, .int a2), (2, .int a3)]) (by decide +kernel) rfl rfl (Nat.le_of_ble_eq_true rfl) rfl (fun X C hret => ?_)
  unfold fX5_in at hf
  refine g_iload_n C 0 dX5_in_0 rfl rfl ?_
  refine g_iload_n C 1 dX5_in_1 rfl rfl ?_
  refine g_icmp_lt (tgt := 14) hf C dX5_in_2 (by decide) (fun hf => ?_) (fun hf => ?_)
  · refine g_iconst C dX5_in_14 ic_0 ?_
    exact g_retz hf (by decide) hret dX5_in_15
  · refine g_iload_n C 0 dX5_in_5 rfl rfl ?_
    refine g_iload_n C 2 dX5_in_6 rfl rfl ?_
    refine g_icmp_gt (tgt := 14) hf C dX5_in_7 (by decide) (fun hf => ?_) (fun hf => ?_)
    · refine g_iconst C dX5_in_14 ic_0 ?_
      exact g_retz hf (by decide) hret dX5_in_15
    · refine g_iconst C dX5_in_10 ic_1 ?_
      refine g_goto (tgt := 15) C dX5_in_11 (by decide) ?_
      exact g_retz hf (by decide) hret dX5_in_15
/-! X5_has -/
theorem ddX5_has : yX5_has.cls ≠ "java/lang/invoke/MethodHandle" ∧ yX5_has.cls ≠ "java/lang/invoke/VarHandle" ∧ (parseMethodDescriptor yX5_has.desc).map (fun d => d.parameters.length) = some 2 := by decide +kernel
set_option maxHeartbeats 4000000 in
set_option maxRecDepth 100000 in
theorem mX5_has (l0 : Launch) (D0 : va_G) (K0 : Nat → ClassId) (h : Nat → Nat) (σ : pS) (a1 : Int32) (a2 : Int32) {r : Int32} (hf : fX5_has a1 a2 = some r) : Met l0 yX5_has wsX5_has ({ frames := 0, cells := 0, slots := 0, locals := 0 } : Room) (va_Pc [.int a1, .int a2] (pIn wM D0 K0 h σ)) (va_Qi (fun r' u' => r' = r ∧ u' = σ) (pOut wM D0 K0 h) (pA wM h)) 0 0 (pA wM h) := by
  refine p_metZ (lv := [(0, .int a1), (1, .int a2)]) (by decide +kernel) rfl rfl (Nat.le_of_ble_eq_true rfl) rfl (fun X C hret => ?_)
  unfold fX5_has at hf
  refine g_iload_n C 0 dX5_has_0 rfl rfl ?_
  refine g_iload_n C 1 dX5_has_1 rfl rfl ?_
  refine g_ishr C dX5_has_2 ?_
  refine g_iconst C dX5_has_3 ic_1 ?_
  refine g_iand C dX5_has_4 ?_
  refine g_iconst C dX5_has_5 ic_1 ?_
  refine g_icmp_ne (tgt := 13) hf C dX5_has_6 (by decide) (fun hf => ?_) (fun hf => ?_)
  · refine g_iconst C dX5_has_13 ic_0 ?_
    exact g_retz hf (by decide) hret dX5_has_14
  · refine g_iconst C dX5_has_9 ic_1 ?_
    refine g_goto (tgt := 14) C dX5_has_10 (by decide) ?_
    exact g_retz hf (by decide) hret dX5_has_14
/-! X5_bits -/
theorem ddX5_bits : yX5_bits.cls ≠ "java/lang/invoke/MethodHandle" ∧ yX5_bits.cls ≠ "java/lang/invoke/VarHandle" ∧ (parseMethodDescriptor yX5_bits.desc).map (fun d => d.parameters.length) = some 1 := by decide +kernel
set_option maxHeartbeats 4000000 in
set_option maxRecDepth 100000 in
theorem lX5_bits_4_ok {h : Nat → Nat} {X : Cx} {l0 : Launch} {D0 : va_G} {K0 : Nat → ClassId} (σ : pS) {k20 : Int32 → Option Int32} {r : Int32} (C : Cok wM h X l0 ({ frames := 0, cells := 0, slots := 0, locals := 0 } : Room) D0 K0 cX5_bits 3 RX5 wsX5_bits) (hret : ∀ (pc : Nat) (lv' : List (Nat × Value)), decode cX5_bits pc = .ok (.ireturn, 1) → G wM h X pc lv' [.int r] σ) (hk20 : ∀ (z1 : Int32), k20 z1 = some r → G wM h X 20 [(1, .int z1)] [] σ) : ∀ (F : Nat) (v1 : Int32) (v2 : Int32), lX5_bits_4 k20 F v1 v2 = some r → G wM h X 4 [(1, .int v1), (2, .int v2)] [] σ := by
  intro F
  induction F with
  | zero => intro v1 v2 hf; exact absurd hf (by simp [lX5_bits_4])
  | succ F ih =>
    intro v1 v2 hf
    rw [lX5_bits_4.eq_2] at hf
    refine g_iload_n C 1 dX5_bits_4 rfl rfl ?_
    refine g_if_eq (tgt := 20) hf C dX5_bits_5 (by decide) (fun hf => ?_) (fun hf => ?_)
    · refine g_lv [0] rfl ?_
      exact hk20 v1 hf
    · refine g_iinc C 0 [0, 1] dX5_bits_8 rfl ic_1 (Nat.le_of_ble_eq_true rfl) rfl ?_
      refine g_iload_n C 1 dX5_bits_11 rfl rfl ?_
      refine g_iload_n C 1 dX5_bits_12 rfl rfl ?_
      refine g_iconst C dX5_bits_13 ic_1 ?_
      refine g_isub C dX5_bits_14 ?_
      refine g_iand C dX5_bits_15 ?_
      refine g_leti hf (fun x1 hf => ?_)
      refine g_istore_n C [1, 0] dX5_bits_16 rfl (Nat.le_of_ble_eq_true rfl) rfl ?_
      refine g_goto (tgt := 4) C dX5_bits_17 (by decide) ?_
      exact ih (v1 + (1 : Int32)) x1 hf
set_option maxHeartbeats 4000000 in
set_option maxRecDepth 100000 in
theorem mX5_bits (l0 : Launch) (D0 : va_G) (K0 : Nat → ClassId) (h : Nat → Nat) (σ : pS) (a1 : Int32) {r : Int32} (hf : fX5_bits a1 = some r) : Met l0 yX5_bits wsX5_bits ({ frames := 0, cells := 0, slots := 0, locals := 0 } : Room) (va_Pc [.int a1] (pIn wM D0 K0 h σ)) (va_Qi (fun r' u' => r' = r ∧ u' = σ) (pOut wM D0 K0 h) (pA wM h)) 0 0 (pA wM h) := by
  refine p_metI (lv := [(0, .int a1)]) (by decide +kernel) rfl rfl (Nat.le_of_ble_eq_true rfl) rfl (fun X C hret => ?_)
  unfold fX5_bits at hf
  refine g_iconst C dX5_bits_0 ic_0 ?_
  refine g_istore_n C [1, 0] dX5_bits_1 rfl (Nat.le_of_ble_eq_true rfl) rfl ?_
  refine g_iload_n C 0 dX5_bits_2 rfl rfl ?_
  refine g_istore_n C [1, 2, 0] dX5_bits_3 rfl (Nat.le_of_ble_eq_true rfl) rfl ?_
  refine g_lv [1, 2] rfl ?_
  refine lX5_bits_4_ok σ  C hret (fun y2 hf => ?_) FU (0 : Int32) a1 hf
  refine g_iload_n C 0 dX5_bits_20 rfl rfl ?_
  exact g_reti hf hret dX5_bits_21
/-! X5_greater -/
theorem ddX5_greater : yX5_greater.cls ≠ "java/lang/invoke/MethodHandle" ∧ yX5_greater.cls ≠ "java/lang/invoke/VarHandle" ∧ (parseMethodDescriptor yX5_greater.desc).map (fun d => d.parameters.length) = some 2 := by decide +kernel
set_option maxHeartbeats 4000000 in
set_option maxRecDepth 100000 in
theorem mX5_greater (l0 : Launch) (D0 : va_G) (K0 : Nat → ClassId) (h : Nat → Nat) (σ : pS) (a1 : Int32) (a2 : Int32) {r : Int32} (hf : fX5_greater a1 a2 = some r) : Met l0 yX5_greater wsX5_greater ({ frames := 0, cells := 0, slots := 0, locals := 0 } : Room) (va_Pc [.int a1, .int a2] (pIn wM D0 K0 h σ)) (va_Qi (fun r' u' => r' = r ∧ u' = σ) (pOut wM D0 K0 h) (pA wM h)) 0 0 (pA wM h) := by
  refine p_metI (lv := [(0, .int a1), (1, .int a2)]) (by decide +kernel) rfl rfl (Nat.le_of_ble_eq_true rfl) rfl (fun X C hret => ?_)
  unfold fX5_greater at hf
  refine g_iload_n C 0 dX5_greater_0 rfl rfl ?_
  refine g_iload_n C 1 dX5_greater_1 rfl rfl ?_
  refine g_icmp_le (tgt := 9) hf C dX5_greater_2 (by decide) (fun hf => ?_) (fun hf => ?_)
  · refine g_iload_n C 1 dX5_greater_9 rfl rfl ?_
    exact g_reti hf hret dX5_greater_10
  · refine g_iload_n C 0 dX5_greater_5 rfl rfl ?_
    refine g_goto (tgt := 10) C dX5_greater_6 (by decide) ?_
    exact g_reti hf hret dX5_greater_10
/-! X5_meets -/
theorem in_X5_meets_X5 : ∀ q ∈ u_ws RX5 TX5 30, q ∈ wsX5_meets := by decide +kernel
theorem lk_X5_meets_0 : Cond.fieldLink RX5 68 "EmptyHouseModel" "latest" "I" ∈ wsX5_meets := by decide +kernel
theorem lk_X5_meets_1 : Cond.fieldLink RX5 7 "EmptyHouseModel" "came" "[I" ∈ wsX5_meets := by decide +kernel
theorem ddX5_meets : yX5_meets.cls = RX5 ∧ yX5_meets.cls ≠ "java/lang/invoke/MethodHandle" ∧ yX5_meets.cls ≠ "java/lang/invoke/VarHandle" ∧ (parseMethodDescriptor yX5_meets.desc).map (fun d => d.parameters.length) = some 1 := by decide +kernel
set_option maxHeartbeats 4000000 in
set_option maxRecDepth 100000 in
theorem mX5_meets (l0 : Launch) (D0 : va_G) (K0 : Nat → ClassId) (h : Nat → Nat) (σ : pS) (a1 : Int32) {r : Int32} {u : pS} (hf : fX5_meets σ a1 = some (r, u)) : Met l0 yX5_meets wsX5_meets ({ frames := 0, cells := 0, slots := 0, locals := 0 } : Room) (va_Pc [.ref (h 0), .int a1] (pIn wM D0 K0 h σ)) (va_Qi (fun r' u' => r' = r ∧ u' = u) (pOut wM D0 K0 h) (pA wM h)) 0 0 (pA wM h) := by
  refine p_metI (lv := [(0, .ref (h 0)), (1, .int a1)]) (by decide +kernel) rfl rfl (Nat.le_of_ble_eq_true rfl) rfl (fun X C hret => ?_)
  unfold fX5_meets at hf
  refine g_aload_n C 0 dX5_meets_0 rfl rfl ?_
  refine g_iload_n C 1 dX5_meets_1 rfl rfl ?_
  refine g_putI C in_X5_meets_X5 (k := 0) lk_X5_meets_0 rfl (Nat.le_of_ble_eq_true rfl) rfl (Nat.le_of_ble_eq_true rfl) tyX5 tyX5_ok nmX5 rfl rfl rfl rfl dX5_meets_2 ?_
  refine g_lets hf (fun σ1 hf => ?_)
  refine g_aload_n C 0 dX5_meets_5 rfl rfl ?_
  refine g_getC (n := 1) C in_X5_meets_X5 (k := 1) lk_X5_meets_1 rfl (Nat.le_of_ble_eq_true rfl) rfl (Nat.le_of_ble_eq_true rfl) rfl dX5_meets_6 ?_
  refine g_iload_n C 1 dX5_meets_9 rfl rfl ?_
  refine g_dup2 C dX5_meets_10 rfl rfl ?_
  refine g_iald hf C rfl (Nat.le_of_ble_eq_true rfl) dX5_meets_11 (fun hf => ?_)
  refine g_iconst C dX5_meets_12 ic_1 ?_
  refine g_iadd C dX5_meets_13 ?_
  refine g_iast hf C rfl (Nat.le_of_ble_eq_true rfl) dX5_meets_14 (fun hf => ?_)
  refine g_lets hf (fun σ2 hf => ?_)
  refine g_bipush C dX5_meets_15 bp_m3 ?_
  exact g_retiW hf hret dX5_meets_17
/-! X5_finding -/
theorem in_X5_finding_X5 : ∀ q ∈ u_ws RX5 TX5 30, q ∈ wsX5_finding := by decide +kernel
theorem lk_X5_finding_0 : Cond.fieldLink RX5 68 "EmptyHouseModel" "latest" "I" ∈ wsX5_finding := by decide +kernel
theorem ddX5_finding : yX5_finding.cls = RX5 ∧ yX5_finding.cls ≠ "java/lang/invoke/MethodHandle" ∧ yX5_finding.cls ≠ "java/lang/invoke/VarHandle" ∧ (parseMethodDescriptor yX5_finding.desc).map (fun d => d.parameters.length) = some 0 := by decide +kernel
set_option maxHeartbeats 4000000 in
set_option maxRecDepth 100000 in
theorem mX5_finding (l0 : Launch) (D0 : va_G) (K0 : Nat → ClassId) (h : Nat → Nat) (σ : pS)  {r : Int32} (hf : fX5_finding σ = some r) : Met l0 yX5_finding wsX5_finding ({ frames := 0, cells := 0, slots := 0, locals := 0 } : Room) (va_Pc [.ref (h 0)] (pIn wM D0 K0 h σ)) (va_Qi (fun r' u' => r' = r ∧ u' = σ) (pOut wM D0 K0 h) (pA wM h)) 0 0 (pA wM h) := by
  refine p_metI (lv := [(0, .ref (h 0))]) (by decide +kernel) rfl rfl (Nat.le_of_ble_eq_true rfl) rfl (fun X C hret => ?_)
  unfold fX5_finding at hf
  refine g_aload_n C 0 dX5_finding_0 rfl rfl ?_
  refine g_getI C in_X5_finding_X5 (k := 0) lk_X5_finding_0 rfl (Nat.le_of_ble_eq_true rfl) rfl (Nat.le_of_ble_eq_true rfl) rfl dX5_finding_1 ?_
  exact g_reti hf hret dX5_finding_4
/-! X5_findings -/
theorem in_X5_findings_X5 : ∀ q ∈ u_ws RX5 TX5 30, q ∈ wsX5_findings := by decide +kernel
theorem lk_X5_findings_0 : Cond.fieldLink RX5 7 "EmptyHouseModel" "came" "[I" ∈ wsX5_findings := by decide +kernel
theorem ddX5_findings : yX5_findings.cls = RX5 ∧ yX5_findings.cls ≠ "java/lang/invoke/MethodHandle" ∧ yX5_findings.cls ≠ "java/lang/invoke/VarHandle" ∧ (parseMethodDescriptor yX5_findings.desc).map (fun d => d.parameters.length) = some 1 := by decide +kernel
set_option maxHeartbeats 4000000 in
set_option maxRecDepth 100000 in
theorem mX5_findings (l0 : Launch) (D0 : va_G) (K0 : Nat → ClassId) (h : Nat → Nat) (σ : pS) (a1 : Int32) {r : Int32} (hf : fX5_findings σ a1 = some r) : Met l0 yX5_findings wsX5_findings ({ frames := 1, cells := 0, slots := 0, locals := 22 } : Room) (va_Pc [.ref (h 0), .int a1] (pIn wM D0 K0 h σ)) (va_Qi (fun r' u' => r' = r ∧ u' = σ) (pOut wM D0 K0 h) (pA wM h)) 0 0 (pA wM h) := by
  refine p_metI (lv := [(0, .ref (h 0)), (1, .int a1)]) (by decide +kernel) rfl rfl (Nat.le_of_ble_eq_true rfl) rfl (fun X C hret => ?_)
  unfold fX5_findings at hf
  refine g_iload_n C 1 dX5_findings_0 rfl rfl ?_
  refine g_iconst C dX5_findings_1 ic_1 ?_
  refine g_iconst C dX5_findings_2 ic_5 ?_
  obtain ⟨r2, hc1, hf⟩ := g_bind hf
  refine g_callSi C (mX5_in l0 D0 K0 h σ a1 (1 : Int32) (5 : Int32) hc1) gX5_findings_X5_in rfl rfl rfl ddX5_in ⟨(Nat.le_of_ble_eq_true rfl), (Nat.le_of_ble_eq_true rfl)⟩ rfl rfl (Nat.le_of_ble_eq_true rfl) dX5_findings_3 ?_
  refine g_if_eq (tgt := 18) hf C dX5_findings_6 (by decide) (fun hf => ?_) (fun hf => ?_)
  · refine g_iconst C dX5_findings_18 ic_m1 ?_
    exact g_reti hf hret dX5_findings_19
  · refine g_aload_n C 0 dX5_findings_9 rfl rfl ?_
    refine g_getC (n := 1) C in_X5_findings_X5 (k := 1) lk_X5_findings_0 rfl (Nat.le_of_ble_eq_true rfl) rfl (Nat.le_of_ble_eq_true rfl) rfl dX5_findings_10 ?_
    refine g_iload_n C 1 dX5_findings_13 rfl rfl ?_
    refine g_iald hf C rfl (Nat.le_of_ble_eq_true rfl) dX5_findings_14 (fun hf => ?_)
    refine g_goto (tgt := 19) C dX5_findings_15 (by decide) ?_
    exact g_reti hf hret dX5_findings_19
/-! X5_tells -/
theorem in_X5_tells_X5 : ∀ q ∈ u_ws RX5 TX5 30, q ∈ wsX5_tells := by decide +kernel
theorem lk_X5_tells_0 : Cond.fieldLink RX5 76 "EmptyHouseModel" "asked" "I" ∈ wsX5_tells := by decide +kernel
theorem ddX5_tells : yX5_tells.cls = RX5 ∧ yX5_tells.cls ≠ "java/lang/invoke/MethodHandle" ∧ yX5_tells.cls ≠ "java/lang/invoke/VarHandle" ∧ (parseMethodDescriptor yX5_tells.desc).map (fun d => d.parameters.length) = some 2 := by decide +kernel
set_option maxHeartbeats 4000000 in
set_option maxRecDepth 100000 in
theorem mX5_tells (l0 : Launch) (D0 : va_G) (K0 : Nat → ClassId) (h : Nat → Nat) (σ : pS) (a1 : Int32) (a2 : Int32) {r : Int32} {u : pS} (hf : fX5_tells σ a1 a2 = some (r, u)) : Met l0 yX5_tells wsX5_tells ({ frames := 0, cells := 0, slots := 0, locals := 0 } : Room) (va_Pc [.ref (h 0), .int a1, .int a2] (pIn wM D0 K0 h σ)) (va_Qi (fun r' u' => r' = r ∧ u' = u) (pOut wM D0 K0 h) (pA wM h)) 0 0 (pA wM h) := by
  refine p_metI (lv := [(0, .ref (h 0)), (1, .int a1), (2, .int a2)]) (by decide +kernel) rfl rfl (Nat.le_of_ble_eq_true rfl) rfl (fun X C hret => ?_)
  unfold fX5_tells at hf
  refine g_aload_n C 0 dX5_tells_0 rfl rfl ?_
  refine g_iload_n C 1 dX5_tells_1 rfl rfl ?_
  refine g_putI C in_X5_tells_X5 (k := 2) lk_X5_tells_0 rfl (Nat.le_of_ble_eq_true rfl) rfl (Nat.le_of_ble_eq_true rfl) tyX5 tyX5_ok nmX5 rfl rfl rfl rfl dX5_tells_2 ?_
  refine g_lets hf (fun σ1 hf => ?_)
  refine g_iload_n C 2 dX5_tells_5 rfl rfl ?_
  exact g_retiW hf hret dX5_tells_6
/-! X5_asked -/
theorem in_X5_asked_X5 : ∀ q ∈ u_ws RX5 TX5 30, q ∈ wsX5_asked := by decide +kernel
theorem lk_X5_asked_0 : Cond.fieldLink RX5 76 "EmptyHouseModel" "asked" "I" ∈ wsX5_asked := by decide +kernel
theorem ddX5_asked : yX5_asked.cls = RX5 ∧ yX5_asked.cls ≠ "java/lang/invoke/MethodHandle" ∧ yX5_asked.cls ≠ "java/lang/invoke/VarHandle" ∧ (parseMethodDescriptor yX5_asked.desc).map (fun d => d.parameters.length) = some 0 := by decide +kernel
set_option maxHeartbeats 4000000 in
set_option maxRecDepth 100000 in
theorem mX5_asked (l0 : Launch) (D0 : va_G) (K0 : Nat → ClassId) (h : Nat → Nat) (σ : pS)  {r : Int32} (hf : fX5_asked σ = some r) : Met l0 yX5_asked wsX5_asked ({ frames := 0, cells := 0, slots := 0, locals := 0 } : Room) (va_Pc [.ref (h 0)] (pIn wM D0 K0 h σ)) (va_Qi (fun r' u' => r' = r ∧ u' = σ) (pOut wM D0 K0 h) (pA wM h)) 0 0 (pA wM h) := by
  refine p_metI (lv := [(0, .ref (h 0))]) (by decide +kernel) rfl rfl (Nat.le_of_ble_eq_true rfl) rfl (fun X C hret => ?_)
  unfold fX5_asked at hf
  refine g_aload_n C 0 dX5_asked_0 rfl rfl ?_
  refine g_getI C in_X5_asked_X5 (k := 2) lk_X5_asked_0 rfl (Nat.le_of_ble_eq_true rfl) rfl (Nat.le_of_ble_eq_true rfl) rfl dX5_asked_1 ?_
  exact g_reti hf hret dX5_asked_4
/-! X5_upper -/
theorem in_X5_upper_X5 : ∀ q ∈ u_ws RX5 TX5 30, q ∈ wsX5_upper := by decide +kernel
theorem lk_X5_upper_0 : Cond.fieldLink RX5 79 "EmptyHouseModel" "upper" "J" ∈ wsX5_upper := by decide +kernel
theorem ddX5_upper : yX5_upper.cls = RX5 ∧ yX5_upper.cls ≠ "java/lang/invoke/MethodHandle" ∧ yX5_upper.cls ≠ "java/lang/invoke/VarHandle" ∧ (parseMethodDescriptor yX5_upper.desc).map (fun d => d.parameters.length) = some 0 := by decide +kernel
set_option maxHeartbeats 4000000 in
set_option maxRecDepth 100000 in
theorem mX5_upper (l0 : Launch) (D0 : va_G) (K0 : Nat → ClassId) (h : Nat → Nat) (σ : pS)  {r : Int64} (hf : fX5_upper σ = some r) : Met l0 yX5_upper wsX5_upper ({ frames := 0, cells := 0, slots := 0, locals := 0 } : Room) (va_Pc [.ref (h 0)] (pIn wM D0 K0 h σ)) (va_Ql (fun r' u' => r' = r ∧ u' = σ) (pOut wM D0 K0 h) (pA wM h)) 0 0 (pA wM h) := by
  refine p_metL (lv := [(0, .ref (h 0))]) (by decide +kernel) rfl rfl (Nat.le_of_ble_eq_true rfl) rfl (fun X C hret => ?_)
  unfold fX5_upper at hf
  refine g_aload_n C 0 dX5_upper_0 rfl rfl ?_
  refine g_getL C in_X5_upper_X5 (k := 3) lk_X5_upper_0 rfl (Nat.le_of_ble_eq_true rfl) rfl (Nat.le_of_ble_eq_true rfl) rfl dX5_upper_1 ?_
  exact g_retl hf hret dX5_upper_4
/-! X5_lower -/
theorem in_X5_lower_X5 : ∀ q ∈ u_ws RX5 TX5 30, q ∈ wsX5_lower := by decide +kernel
theorem lk_X5_lower_0 : Cond.fieldLink RX5 64 "EmptyHouseModel" "lower" "J" ∈ wsX5_lower := by decide +kernel
theorem ddX5_lower : yX5_lower.cls = RX5 ∧ yX5_lower.cls ≠ "java/lang/invoke/MethodHandle" ∧ yX5_lower.cls ≠ "java/lang/invoke/VarHandle" ∧ (parseMethodDescriptor yX5_lower.desc).map (fun d => d.parameters.length) = some 0 := by decide +kernel
set_option maxHeartbeats 4000000 in
set_option maxRecDepth 100000 in
theorem mX5_lower (l0 : Launch) (D0 : va_G) (K0 : Nat → ClassId) (h : Nat → Nat) (σ : pS)  {r : Int64} (hf : fX5_lower σ = some r) : Met l0 yX5_lower wsX5_lower ({ frames := 0, cells := 0, slots := 0, locals := 0 } : Room) (va_Pc [.ref (h 0)] (pIn wM D0 K0 h σ)) (va_Ql (fun r' u' => r' = r ∧ u' = σ) (pOut wM D0 K0 h) (pA wM h)) 0 0 (pA wM h) := by
  refine p_metL (lv := [(0, .ref (h 0))]) (by decide +kernel) rfl rfl (Nat.le_of_ble_eq_true rfl) rfl (fun X C hret => ?_)
  unfold fX5_lower at hf
  refine g_aload_n C 0 dX5_lower_0 rfl rfl ?_
  refine g_getL C in_X5_lower_X5 (k := 4) lk_X5_lower_0 rfl (Nat.le_of_ble_eq_true rfl) rfl (Nat.le_of_ble_eq_true rfl) rfl dX5_lower_1 ?_
  exact g_retl hf hret dX5_lower_4
/-! X5_isRow -/
theorem ddX5_isRow : yX5_isRow.cls ≠ "java/lang/invoke/MethodHandle" ∧ yX5_isRow.cls ≠ "java/lang/invoke/VarHandle" ∧ (parseMethodDescriptor yX5_isRow.desc).map (fun d => d.parameters.length) = some 1 := by decide +kernel
set_option maxHeartbeats 4000000 in
set_option maxRecDepth 100000 in
theorem mX5_isRow (l0 : Launch) (D0 : va_G) (K0 : Nat → ClassId) (h : Nat → Nat) (σ : pS) (a1 : Int32) {r : Int32} (hf : fX5_isRow a1 = some r) : Met l0 yX5_isRow wsX5_isRow ({ frames := 1, cells := 0, slots := 0, locals := 22 } : Room) (va_Pc [.int a1] (pIn wM D0 K0 h σ)) (va_Qi (fun r' u' => r' = r ∧ u' = σ) (pOut wM D0 K0 h) (pA wM h)) 0 0 (pA wM h) := by
  refine p_metZ (lv := [(0, .int a1)]) (by decide +kernel) rfl rfl (Nat.le_of_ble_eq_true rfl) rfl (fun X C hret => ?_)
  unfold fX5_isRow at hf
  refine g_iload_n C 0 dX5_isRow_0 rfl rfl ?_
  refine g_iconst C dX5_isRow_1 ic_0 ?_
  refine g_iconst C dX5_isRow_2 ic_5 ?_
  obtain ⟨r2, hc1, hf⟩ := g_bind hf
  refine g_callSi C (mX5_in l0 D0 K0 h σ a1 (0 : Int32) (5 : Int32) hc1) gX5_isRow_X5_in rfl rfl rfl ddX5_in ⟨(Nat.le_of_ble_eq_true rfl), (Nat.le_of_ble_eq_true rfl)⟩ rfl rfl (Nat.le_of_ble_eq_true rfl) dX5_isRow_3 ?_
  exact g_retzG hf hret dX5_isRow_6
/-! X5_rowAt -/
theorem in_X5_rowAt_X5 : ∀ q ∈ u_ws RX5 TX5 30, q ∈ wsX5_rowAt := by decide +kernel
theorem lk_X5_rowAt_0 : Cond.fieldLink RX5 16 "EmptyHouseModel" "rows" "[I" ∈ wsX5_rowAt := by decide +kernel
theorem ddX5_rowAt : yX5_rowAt.cls = RX5 ∧ yX5_rowAt.cls ≠ "java/lang/invoke/MethodHandle" ∧ yX5_rowAt.cls ≠ "java/lang/invoke/VarHandle" ∧ (parseMethodDescriptor yX5_rowAt.desc).map (fun d => d.parameters.length) = some 2 := by decide +kernel
set_option maxHeartbeats 4000000 in
set_option maxRecDepth 100000 in
theorem mX5_rowAt (l0 : Launch) (D0 : va_G) (K0 : Nat → ClassId) (h : Nat → Nat) (σ : pS) (a1 : Int32) (a2 : Int32) {r : Int32} (hf : fX5_rowAt σ a1 a2 = some r) : Met l0 yX5_rowAt wsX5_rowAt ({ frames := 0, cells := 0, slots := 0, locals := 0 } : Room) (va_Pc [.ref (h 0), .int a1, .int a2] (pIn wM D0 K0 h σ)) (va_Qi (fun r' u' => r' = r ∧ u' = σ) (pOut wM D0 K0 h) (pA wM h)) 0 0 (pA wM h) := by
  refine p_metI (lv := [(0, .ref (h 0)), (1, .int a1), (2, .int a2)]) (by decide +kernel) rfl rfl (Nat.le_of_ble_eq_true rfl) rfl (fun X C hret => ?_)
  unfold fX5_rowAt at hf
  refine g_aload_n C 0 dX5_rowAt_0 rfl rfl ?_
  refine g_getC (n := 3) C in_X5_rowAt_X5 (k := 6) lk_X5_rowAt_0 rfl (Nat.le_of_ble_eq_true rfl) rfl (Nat.le_of_ble_eq_true rfl) rfl dX5_rowAt_1 ?_
  refine g_bipush C dX5_rowAt_4 bp_60 ?_
  refine g_iload_n C 1 dX5_rowAt_6 rfl rfl ?_
  refine g_imul C dX5_rowAt_7 ?_
  refine g_iload_n C 2 dX5_rowAt_8 rfl rfl ?_
  refine g_iadd C dX5_rowAt_9 ?_
  refine g_iald hf C rfl (Nat.le_of_ble_eq_true rfl) dX5_rowAt_10 (fun hf => ?_)
  exact g_reti hf hret dX5_rowAt_11
/-! X5_row -/
theorem in_X5_row_X5 : ∀ q ∈ u_ws RX5 TX5 30, q ∈ wsX5_row := by decide +kernel
theorem lk_X5_row_0 : Cond.fieldLink RX5 13 "EmptyHouseModel" "sizes" "[I" ∈ wsX5_row := by decide +kernel
theorem lk_X5_row_1 : Cond.fieldLink RX5 16 "EmptyHouseModel" "rows" "[I" ∈ wsX5_row := by decide +kernel
theorem ddX5_row : yX5_row.cls = RX5 ∧ yX5_row.cls ≠ "java/lang/invoke/MethodHandle" ∧ yX5_row.cls ≠ "java/lang/invoke/VarHandle" ∧ (parseMethodDescriptor yX5_row.desc).map (fun d => d.parameters.length) = some 2 := by decide +kernel
set_option maxHeartbeats 4000000 in
set_option maxRecDepth 100000 in
theorem lX5_row_34_ok {h : Nat → Nat} {X : Cx} {l0 : Launch} {D0 : va_G} {K0 : Nat → ClassId} (p1 : Int32) (p2 : Int32) {k58 : pS → Option (Int32 × pS)} {r : Int32} {u : pS} (C : Cok wM h X l0 ({ frames := 2, cells := 0, slots := 0, locals := 42 } : Room) D0 K0 cX5_row 4 RX5 wsX5_row) (hret : ∀ (pc : Nat) (lv' : List (Nat × Value)), decode cX5_row pc = .ok (.ireturn, 1) → G wM h X pc lv' [.int r] u) (hk58 : ∀  (σ : pS), k58 σ = some (r, u) → G wM h X 58 [(2, .int p2)] [] σ) : ∀ (F : Nat) (v3 : Int32) (σ : pS), lX5_row_34 p1 p2 k58 F v3 σ = some (r, u) → G wM h X 34 [(0, .ref (h 0)), (1, .int p1), (2, .int p2), (3, .int v3)] [] σ := by
  intro F
  induction F with
  | zero => intro v3 σ hf; exact absurd hf (by simp [lX5_row_34])
  | succ F ih =>
    intro v3 σ hf
    rw [lX5_row_34.eq_2] at hf
    refine g_iload_n C 3 dX5_row_34 rfl rfl ?_
    refine g_bipush C dX5_row_35 bp_60 ?_
    refine g_icmp_ge (tgt := 58) hf C dX5_row_37 (by decide) (fun hf => ?_) (fun hf => ?_)
    · refine g_lv [2] rfl ?_
      exact hk58 σ hf
    · refine g_aload_n C 0 dX5_row_40 rfl rfl ?_
      refine g_getC (n := 3) C in_X5_row_X5 (k := 6) lk_X5_row_1 rfl (Nat.le_of_ble_eq_true rfl) rfl (Nat.le_of_ble_eq_true rfl) rfl dX5_row_41 ?_
      refine g_bipush C dX5_row_44 bp_60 ?_
      refine g_iload_n C 1 dX5_row_46 rfl rfl ?_
      refine g_imul C dX5_row_47 ?_
      refine g_iload_n C 3 dX5_row_48 rfl rfl ?_
      refine g_iadd C dX5_row_49 ?_
      refine g_iconst C dX5_row_50 ic_0 ?_
      refine g_iast hf C rfl (Nat.le_of_ble_eq_true rfl) dX5_row_51 (fun hf => ?_)
      refine g_lets hf (fun σ4 hf => ?_)
      refine g_iinc C 3 [1, 2, 3, 0] dX5_row_52 rfl ic_1 (Nat.le_of_ble_eq_true rfl) rfl ?_
      refine g_goto (tgt := 34) C dX5_row_55 (by decide) ?_
      exact ih (v3 + (1 : Int32)) σ4 hf
set_option maxHeartbeats 4000000 in
set_option maxRecDepth 100000 in
theorem mX5_row (l0 : Launch) (D0 : va_G) (K0 : Nat → ClassId) (h : Nat → Nat) (σ : pS) (a1 : Int32) (a2 : Int32) {r : Int32} {u : pS} (hf : fX5_row σ a1 a2 = some (r, u)) : Met l0 yX5_row wsX5_row ({ frames := 2, cells := 0, slots := 0, locals := 42 } : Room) (va_Pc [.ref (h 0), .int a1, .int a2] (pIn wM D0 K0 h σ)) (va_Qi (fun r' u' => r' = r ∧ u' = u) (pOut wM D0 K0 h) (pA wM h)) 0 0 (pA wM h) := by
  refine p_metI (lv := [(0, .ref (h 0)), (1, .int a1), (2, .int a2)]) (by decide +kernel) rfl rfl (Nat.le_of_ble_eq_true rfl) rfl (fun X C hret => ?_)
  unfold fX5_row at hf
  refine g_iload_n C 1 dX5_row_0 rfl rfl ?_
  obtain ⟨r2, hc1, hf⟩ := g_bind hf
  refine g_callSi C (mX5_isRow l0 D0 K0 h σ a1 hc1) gX5_row_X5_isRow rfl rfl rfl ddX5_isRow ⟨(Nat.le_of_ble_eq_true rfl), (Nat.le_of_ble_eq_true rfl)⟩ rfl rfl (Nat.le_of_ble_eq_true rfl) dX5_row_1 ?_
  refine g_if_eq (tgt := 13) hf C dX5_row_4 (by decide) (fun hf => ?_) (fun hf => ?_)
  · refine g_iconst C dX5_row_13 ic_m1 ?_
    exact g_retiW hf hret dX5_row_14
  · refine g_iload_n C 2 dX5_row_7 rfl rfl ?_
    refine g_bipush C dX5_row_8 bp_60 ?_
    refine g_icmp_le (tgt := 15) hf C dX5_row_10 (by decide) (fun hf => ?_) (fun hf => ?_)
    · refine g_iload_n C 2 dX5_row_15 rfl rfl ?_
      refine g_if_ge (tgt := 25) hf C dX5_row_16 (by decide) (fun hf => ?_) (fun hf => ?_)
      · refine g_aload_n C 0 dX5_row_25 rfl rfl ?_
        refine g_getC (n := 2) C in_X5_row_X5 (k := 5) lk_X5_row_0 rfl (Nat.le_of_ble_eq_true rfl) rfl (Nat.le_of_ble_eq_true rfl) rfl dX5_row_26 ?_
        refine g_iload_n C 1 dX5_row_29 rfl rfl ?_
        refine g_iload_n C 2 dX5_row_30 rfl rfl ?_
        refine g_iast hf C rfl (Nat.le_of_ble_eq_true rfl) dX5_row_31 (fun hf => ?_)
        refine g_lets hf (fun σ3 hf => ?_)
        refine g_iconst C dX5_row_32 ic_0 ?_
        refine g_istore_n C [1, 2, 3, 0] dX5_row_33 rfl (Nat.le_of_ble_eq_true rfl) rfl ?_
        refine lX5_row_34_ok a1 a2 C hret (fun σ5 hf => ?_) FU (0 : Int32) σ3 hf
        refine g_iload_n C 0 dX5_row_58 rfl rfl ?_
        exact g_retiW hf hret dX5_row_59
      · refine g_aload_n C 0 dX5_row_19 rfl rfl ?_
        refine g_iconst C dX5_row_20 ic_5 ?_
        obtain ⟨r7, σ8, hc6, hf⟩ := g_pbind hf
        refine g_callVi C (mX5_meets l0 D0 K0 h σ (5 : Int32) hc6) gX5_row_X5_meets rfl rfl rfl ddX5_meets ⟨(Nat.le_of_ble_eq_true rfl), (Nat.le_of_ble_eq_true rfl)⟩ rfl (Nat.le_of_ble_eq_true rfl) rfl rfl rfl (Nat.le_of_ble_eq_true rfl) dX5_row_21 ?_
        exact g_retiW hf hret dX5_row_24
    · refine g_iconst C dX5_row_13 ic_m1 ?_
      exact g_retiW hf hret dX5_row_14
/-! X5_lay -/
theorem in_X5_lay_X5 : ∀ q ∈ u_ws RX5 TX5 30, q ∈ wsX5_lay := by decide +kernel
theorem lk_X5_lay_0 : Cond.fieldLink RX5 13 "EmptyHouseModel" "sizes" "[I" ∈ wsX5_lay := by decide +kernel
theorem lk_X5_lay_1 : Cond.fieldLink RX5 16 "EmptyHouseModel" "rows" "[I" ∈ wsX5_lay := by decide +kernel
theorem ddX5_lay : yX5_lay.cls = RX5 ∧ yX5_lay.cls ≠ "java/lang/invoke/MethodHandle" ∧ yX5_lay.cls ≠ "java/lang/invoke/VarHandle" ∧ (parseMethodDescriptor yX5_lay.desc).map (fun d => d.parameters.length) = some 3 := by decide +kernel
set_option maxHeartbeats 4000000 in
set_option maxRecDepth 100000 in
theorem mX5_lay (l0 : Launch) (D0 : va_G) (K0 : Nat → ClassId) (h : Nat → Nat) (σ : pS) (a1 : Int32) (a2 : Int32) (a3 : Int32) {r : Int32} {u : pS} (hf : fX5_lay σ a1 a2 a3 = some (r, u)) : Met l0 yX5_lay wsX5_lay ({ frames := 2, cells := 0, slots := 0, locals := 42 } : Room) (va_Pc [.ref (h 0), .int a1, .int a2, .int a3] (pIn wM D0 K0 h σ)) (va_Qi (fun r' u' => r' = r ∧ u' = u) (pOut wM D0 K0 h) (pA wM h)) 0 0 (pA wM h) := by
  refine p_metI (lv := [(0, .ref (h 0)), (1, .int a1), (2, .int a2), (3, .int a3)]) (by decide +kernel) rfl rfl (Nat.le_of_ble_eq_true rfl) rfl (fun X C hret => ?_)
  unfold fX5_lay at hf
  refine g_iload_n C 1 dX5_lay_0 rfl rfl ?_
  obtain ⟨r2, hc1, hf⟩ := g_bind hf
  refine g_callSi C (mX5_isRow l0 D0 K0 h σ a1 hc1) gX5_lay_X5_isRow rfl rfl rfl ddX5_isRow ⟨(Nat.le_of_ble_eq_true rfl), (Nat.le_of_ble_eq_true rfl)⟩ rfl rfl (Nat.le_of_ble_eq_true rfl) dX5_lay_1 ?_
  refine g_if_ne (tgt := 9) hf C dX5_lay_4 (by decide) (fun hf => ?_) (fun hf => ?_)
  · refine g_aload_n C 0 dX5_lay_9 rfl rfl ?_
    refine g_getC (n := 2) C in_X5_lay_X5 (k := 5) lk_X5_lay_0 rfl (Nat.le_of_ble_eq_true rfl) rfl (Nat.le_of_ble_eq_true rfl) rfl dX5_lay_10 ?_
    refine g_iload_n C 1 dX5_lay_13 rfl rfl ?_
    refine g_iald hf C rfl (Nat.le_of_ble_eq_true rfl) dX5_lay_14 (fun hf => ?_)
    refine g_if_ge (tgt := 24) hf C dX5_lay_15 (by decide) (fun hf => ?_) (fun hf => ?_)
    · refine g_iload_n C 2 dX5_lay_24 rfl rfl ?_
      refine g_iconst C dX5_lay_25 ic_0 ?_
      refine g_aload_n C 0 dX5_lay_26 rfl rfl ?_
      refine g_getC (n := 2) C in_X5_lay_X5 (k := 5) lk_X5_lay_0 rfl (Nat.le_of_ble_eq_true rfl) rfl (Nat.le_of_ble_eq_true rfl) rfl dX5_lay_27 ?_
      refine g_iload_n C 1 dX5_lay_30 rfl rfl ?_
      refine g_iald hf C rfl (Nat.le_of_ble_eq_true rfl) dX5_lay_31 (fun hf => ?_)
      refine g_iconst C dX5_lay_32 ic_1 ?_
      refine g_isub C dX5_lay_33 ?_
      obtain ⟨r4, hc3, hf⟩ := g_bind hf
      refine g_callSi C (mX5_in l0 D0 K0 h σ a2 (0 : Int32) ((pI σ 2 (a1).toNatClampNeg) - (1 : Int32)) hc3) gX5_lay_X5_in rfl rfl rfl ddX5_in ⟨(Nat.le_of_ble_eq_true rfl), (Nat.le_of_ble_eq_true rfl)⟩ rfl rfl (Nat.le_of_ble_eq_true rfl) dX5_lay_34 ?_
      refine g_if_ne (tgt := 46) hf C dX5_lay_37 (by decide) (fun hf => ?_) (fun hf => ?_)
      · refine g_aload_n C 0 dX5_lay_46 rfl rfl ?_
        refine g_iload_n C 1 dX5_lay_47 rfl rfl ?_
        refine g_iload_n C 2 dX5_lay_48 rfl rfl ?_
        obtain ⟨r6, hc5, hf⟩ := g_bind hf
        refine g_callVi C (mX5_rowAt l0 D0 K0 h σ a1 a2 hc5) gX5_lay_X5_rowAt rfl rfl rfl ddX5_rowAt ⟨(Nat.le_of_ble_eq_true rfl), (Nat.le_of_ble_eq_true rfl)⟩ rfl (Nat.le_of_ble_eq_true rfl) rfl rfl rfl (Nat.le_of_ble_eq_true rfl) dX5_lay_49 ?_
        refine g_istore C [1, 2, 3, 4, 0] dX5_lay_52 (Nat.le_of_ble_eq_true rfl) rfl ?_
        refine g_aload_n C 0 dX5_lay_54 rfl rfl ?_
        refine g_getC (n := 3) C in_X5_lay_X5 (k := 6) lk_X5_lay_1 rfl (Nat.le_of_ble_eq_true rfl) rfl (Nat.le_of_ble_eq_true rfl) rfl dX5_lay_55 ?_
        refine g_bipush C dX5_lay_58 bp_60 ?_
        refine g_iload_n C 1 dX5_lay_60 rfl rfl ?_
        refine g_imul C dX5_lay_61 ?_
        refine g_iload_n C 2 dX5_lay_62 rfl rfl ?_
        refine g_iadd C dX5_lay_63 ?_
        refine g_iload_n C 3 dX5_lay_64 rfl rfl ?_
        refine g_iast hf C rfl (Nat.le_of_ble_eq_true rfl) dX5_lay_65 (fun hf => ?_)
        refine g_lets hf (fun σ7 hf => ?_)
        refine g_aload_n C 0 dX5_lay_66 rfl rfl ?_
        refine g_iload C 4 dX5_lay_67 rfl ?_
        refine g_iconst C dX5_lay_69 ic_1 ?_
        obtain ⟨r9, σ10, hc8, hf⟩ := g_pbind hf
        refine g_callVi C (mX5_tells l0 D0 K0 h σ7 r6 (1 : Int32) hc8) gX5_lay_X5_tells rfl rfl rfl ddX5_tells ⟨(Nat.le_of_ble_eq_true rfl), (Nat.le_of_ble_eq_true rfl)⟩ rfl (Nat.le_of_ble_eq_true rfl) rfl rfl rfl (Nat.le_of_ble_eq_true rfl) dX5_lay_70 ?_
        exact g_retiW hf hret dX5_lay_73
      · refine g_aload_n C 0 dX5_lay_40 rfl rfl ?_
        refine g_iconst C dX5_lay_41 ic_2 ?_
        obtain ⟨r12, σ13, hc11, hf⟩ := g_pbind hf
        refine g_callVi C (mX5_meets l0 D0 K0 h σ (2 : Int32) hc11) gX5_lay_X5_meets rfl rfl rfl ddX5_meets ⟨(Nat.le_of_ble_eq_true rfl), (Nat.le_of_ble_eq_true rfl)⟩ rfl (Nat.le_of_ble_eq_true rfl) rfl rfl rfl (Nat.le_of_ble_eq_true rfl) dX5_lay_42 ?_
        exact g_retiW hf hret dX5_lay_45
    · refine g_aload_n C 0 dX5_lay_18 rfl rfl ?_
      refine g_iconst C dX5_lay_19 ic_1 ?_
      obtain ⟨r15, σ16, hc14, hf⟩ := g_pbind hf
      refine g_callVi C (mX5_meets l0 D0 K0 h σ (1 : Int32) hc14) gX5_lay_X5_meets rfl rfl rfl ddX5_meets ⟨(Nat.le_of_ble_eq_true rfl), (Nat.le_of_ble_eq_true rfl)⟩ rfl (Nat.le_of_ble_eq_true rfl) rfl rfl rfl (Nat.le_of_ble_eq_true rfl) dX5_lay_20 ?_
      exact g_retiW hf hret dX5_lay_23
  · refine g_iconst C dX5_lay_7 ic_m1 ?_
    exact g_retiW hf hret dX5_lay_8
/-! X5_at -/
theorem in_X5_at_X5 : ∀ q ∈ u_ws RX5 TX5 30, q ∈ wsX5_at := by decide +kernel
theorem lk_X5_at_0 : Cond.fieldLink RX5 13 "EmptyHouseModel" "sizes" "[I" ∈ wsX5_at := by decide +kernel
theorem ddX5_at : yX5_at.cls = RX5 ∧ yX5_at.cls ≠ "java/lang/invoke/MethodHandle" ∧ yX5_at.cls ≠ "java/lang/invoke/VarHandle" ∧ (parseMethodDescriptor yX5_at.desc).map (fun d => d.parameters.length) = some 2 := by decide +kernel
set_option maxHeartbeats 4000000 in
set_option maxRecDepth 100000 in
theorem mX5_at (l0 : Launch) (D0 : va_G) (K0 : Nat → ClassId) (h : Nat → Nat) (σ : pS) (a1 : Int32) (a2 : Int32) {r : Int32} {u : pS} (hf : fX5_at σ a1 a2 = some (r, u)) : Met l0 yX5_at wsX5_at ({ frames := 2, cells := 0, slots := 0, locals := 42 } : Room) (va_Pc [.ref (h 0), .int a1, .int a2] (pIn wM D0 K0 h σ)) (va_Qi (fun r' u' => r' = r ∧ u' = u) (pOut wM D0 K0 h) (pA wM h)) 0 0 (pA wM h) := by
  refine p_metI (lv := [(0, .ref (h 0)), (1, .int a1), (2, .int a2)]) (by decide +kernel) rfl rfl (Nat.le_of_ble_eq_true rfl) rfl (fun X C hret => ?_)
  unfold fX5_at at hf
  refine g_iload_n C 1 dX5_at_0 rfl rfl ?_
  obtain ⟨r2, hc1, hf⟩ := g_bind hf
  refine g_callSi C (mX5_isRow l0 D0 K0 h σ a1 hc1) gX5_at_X5_isRow rfl rfl rfl ddX5_isRow ⟨(Nat.le_of_ble_eq_true rfl), (Nat.le_of_ble_eq_true rfl)⟩ rfl rfl (Nat.le_of_ble_eq_true rfl) dX5_at_1 ?_
  refine g_if_ne (tgt := 9) hf C dX5_at_4 (by decide) (fun hf => ?_) (fun hf => ?_)
  · refine g_aload_n C 0 dX5_at_9 rfl rfl ?_
    refine g_getC (n := 2) C in_X5_at_X5 (k := 5) lk_X5_at_0 rfl (Nat.le_of_ble_eq_true rfl) rfl (Nat.le_of_ble_eq_true rfl) rfl dX5_at_10 ?_
    refine g_iload_n C 1 dX5_at_13 rfl rfl ?_
    refine g_iald hf C rfl (Nat.le_of_ble_eq_true rfl) dX5_at_14 (fun hf => ?_)
    refine g_if_ge (tgt := 24) hf C dX5_at_15 (by decide) (fun hf => ?_) (fun hf => ?_)
    · refine g_iload_n C 2 dX5_at_24 rfl rfl ?_
      refine g_iconst C dX5_at_25 ic_0 ?_
      refine g_aload_n C 0 dX5_at_26 rfl rfl ?_
      refine g_getC (n := 2) C in_X5_at_X5 (k := 5) lk_X5_at_0 rfl (Nat.le_of_ble_eq_true rfl) rfl (Nat.le_of_ble_eq_true rfl) rfl dX5_at_27 ?_
      refine g_iload_n C 1 dX5_at_30 rfl rfl ?_
      refine g_iald hf C rfl (Nat.le_of_ble_eq_true rfl) dX5_at_31 (fun hf => ?_)
      refine g_iconst C dX5_at_32 ic_1 ?_
      refine g_isub C dX5_at_33 ?_
      obtain ⟨r4, hc3, hf⟩ := g_bind hf
      refine g_callSi C (mX5_in l0 D0 K0 h σ a2 (0 : Int32) ((pI σ 2 (a1).toNatClampNeg) - (1 : Int32)) hc3) gX5_at_X5_in rfl rfl rfl ddX5_in ⟨(Nat.le_of_ble_eq_true rfl), (Nat.le_of_ble_eq_true rfl)⟩ rfl rfl (Nat.le_of_ble_eq_true rfl) dX5_at_34 ?_
      refine g_if_eq (tgt := 54) hf C dX5_at_37 (by decide) (fun hf => ?_) (fun hf => ?_)
      · refine g_aload_n C 0 dX5_at_54 rfl rfl ?_
        refine g_iconst C dX5_at_55 ic_2 ?_
        obtain ⟨r6, σ7, hc5, hf⟩ := g_pbind hf
        refine g_callVi C (mX5_meets l0 D0 K0 h σ (2 : Int32) hc5) gX5_at_X5_meets rfl rfl rfl ddX5_meets ⟨(Nat.le_of_ble_eq_true rfl), (Nat.le_of_ble_eq_true rfl)⟩ rfl (Nat.le_of_ble_eq_true rfl) rfl rfl rfl (Nat.le_of_ble_eq_true rfl) dX5_at_56 ?_
        exact g_retiW hf hret dX5_at_59
      · refine g_aload_n C 0 dX5_at_40 rfl rfl ?_
        refine g_aload_n C 0 dX5_at_41 rfl rfl ?_
        refine g_iload_n C 1 dX5_at_42 rfl rfl ?_
        refine g_iload_n C 2 dX5_at_43 rfl rfl ?_
        obtain ⟨r9, hc8, hf⟩ := g_bind hf
        refine g_callVi C (mX5_rowAt l0 D0 K0 h σ a1 a2 hc8) gX5_at_X5_rowAt rfl rfl rfl ddX5_rowAt ⟨(Nat.le_of_ble_eq_true rfl), (Nat.le_of_ble_eq_true rfl)⟩ rfl (Nat.le_of_ble_eq_true rfl) rfl rfl rfl (Nat.le_of_ble_eq_true rfl) dX5_at_44 ?_
        refine g_iconst C dX5_at_47 ic_1 ?_
        obtain ⟨r11, σ12, hc10, hf⟩ := g_pbind hf
        refine g_callVi C (mX5_tells l0 D0 K0 h σ r9 (1 : Int32) hc10) gX5_at_X5_tells rfl rfl rfl ddX5_tells ⟨(Nat.le_of_ble_eq_true rfl), (Nat.le_of_ble_eq_true rfl)⟩ rfl (Nat.le_of_ble_eq_true rfl) rfl rfl rfl (Nat.le_of_ble_eq_true rfl) dX5_at_48 ?_
        refine g_goto (tgt := 59) C dX5_at_51 (by decide) ?_
        exact g_retiW hf hret dX5_at_59
    · refine g_aload_n C 0 dX5_at_18 rfl rfl ?_
      refine g_iconst C dX5_at_19 ic_1 ?_
      obtain ⟨r14, σ15, hc13, hf⟩ := g_pbind hf
      refine g_callVi C (mX5_meets l0 D0 K0 h σ (1 : Int32) hc13) gX5_at_X5_meets rfl rfl rfl ddX5_meets ⟨(Nat.le_of_ble_eq_true rfl), (Nat.le_of_ble_eq_true rfl)⟩ rfl (Nat.le_of_ble_eq_true rfl) rfl rfl rfl (Nat.le_of_ble_eq_true rfl) dX5_at_20 ?_
      exact g_retiW hf hret dX5_at_23
  · refine g_iconst C dX5_at_7 ic_m1 ?_
    exact g_retiW hf hret dX5_at_8
/-! X5_tear -/
theorem in_X5_tear_X5 : ∀ q ∈ u_ws RX5 TX5 30, q ∈ wsX5_tear := by decide +kernel
theorem lk_X5_tear_0 : Cond.fieldLink RX5 13 "EmptyHouseModel" "sizes" "[I" ∈ wsX5_tear := by decide +kernel
theorem ddX5_tear : yX5_tear.cls = RX5 ∧ yX5_tear.cls ≠ "java/lang/invoke/MethodHandle" ∧ yX5_tear.cls ≠ "java/lang/invoke/VarHandle" ∧ (parseMethodDescriptor yX5_tear.desc).map (fun d => d.parameters.length) = some 1 := by decide +kernel
set_option maxHeartbeats 4000000 in
set_option maxRecDepth 100000 in
theorem mX5_tear (l0 : Launch) (D0 : va_G) (K0 : Nat → ClassId) (h : Nat → Nat) (σ : pS) (a1 : Int32) {r : Int32} {u : pS} (hf : fX5_tear σ a1 = some (r, u)) : Met l0 yX5_tear wsX5_tear ({ frames := 2, cells := 0, slots := 0, locals := 42 } : Room) (va_Pc [.ref (h 0), .int a1] (pIn wM D0 K0 h σ)) (va_Qi (fun r' u' => r' = r ∧ u' = u) (pOut wM D0 K0 h) (pA wM h)) 0 0 (pA wM h) := by
  refine p_metI (lv := [(0, .ref (h 0)), (1, .int a1)]) (by decide +kernel) rfl rfl (Nat.le_of_ble_eq_true rfl) rfl (fun X C hret => ?_)
  unfold fX5_tear at hf
  refine g_iload_n C 1 dX5_tear_0 rfl rfl ?_
  obtain ⟨r2, hc1, hf⟩ := g_bind hf
  refine g_callSi C (mX5_isRow l0 D0 K0 h σ a1 hc1) gX5_tear_X5_isRow rfl rfl rfl ddX5_isRow ⟨(Nat.le_of_ble_eq_true rfl), (Nat.le_of_ble_eq_true rfl)⟩ rfl rfl (Nat.le_of_ble_eq_true rfl) dX5_tear_1 ?_
  refine g_if_ne (tgt := 9) hf C dX5_tear_4 (by decide) (fun hf => ?_) (fun hf => ?_)
  · refine g_aload_n C 0 dX5_tear_9 rfl rfl ?_
    refine g_getC (n := 2) C in_X5_tear_X5 (k := 5) lk_X5_tear_0 rfl (Nat.le_of_ble_eq_true rfl) rfl (Nat.le_of_ble_eq_true rfl) rfl dX5_tear_10 ?_
    refine g_iload_n C 1 dX5_tear_13 rfl rfl ?_
    refine g_iald hf C rfl (Nat.le_of_ble_eq_true rfl) dX5_tear_14 (fun hf => ?_)
    refine g_if_ge (tgt := 24) hf C dX5_tear_15 (by decide) (fun hf => ?_) (fun hf => ?_)
    · refine g_aload_n C 0 dX5_tear_24 rfl rfl ?_
      refine g_getC (n := 2) C in_X5_tear_X5 (k := 5) lk_X5_tear_0 rfl (Nat.le_of_ble_eq_true rfl) rfl (Nat.le_of_ble_eq_true rfl) rfl dX5_tear_25 ?_
      refine g_iload_n C 1 dX5_tear_28 rfl rfl ?_
      refine g_iconst C dX5_tear_29 ic_m1 ?_
      refine g_iast hf C rfl (Nat.le_of_ble_eq_true rfl) dX5_tear_30 (fun hf => ?_)
      refine g_lets hf (fun σ3 hf => ?_)
      refine g_iconst C dX5_tear_31 ic_1 ?_
      exact g_retiW hf hret dX5_tear_32
    · refine g_aload_n C 0 dX5_tear_18 rfl rfl ?_
      refine g_iconst C dX5_tear_19 ic_1 ?_
      obtain ⟨r5, σ6, hc4, hf⟩ := g_pbind hf
      refine g_callVi C (mX5_meets l0 D0 K0 h σ (1 : Int32) hc4) gX5_tear_X5_meets rfl rfl rfl ddX5_meets ⟨(Nat.le_of_ble_eq_true rfl), (Nat.le_of_ble_eq_true rfl)⟩ rfl (Nat.le_of_ble_eq_true rfl) rfl rfl rfl (Nat.le_of_ble_eq_true rfl) dX5_tear_20 ?_
      exact g_retiW hf hret dX5_tear_23
  · refine g_iconst C dX5_tear_7 ic_m1 ?_
    exact g_retiW hf hret dX5_tear_8
/-! X5_copy -/
theorem in_X5_copy_X5 : ∀ q ∈ u_ws RX5 TX5 30, q ∈ wsX5_copy := by decide +kernel
theorem lk_X5_copy_0 : Cond.fieldLink RX5 13 "EmptyHouseModel" "sizes" "[I" ∈ wsX5_copy := by decide +kernel
theorem lk_X5_copy_1 : Cond.fieldLink RX5 19 "EmptyHouseModel" "copied" "[I" ∈ wsX5_copy := by decide +kernel
theorem lk_X5_copy_2 : Cond.fieldLink RX5 16 "EmptyHouseModel" "rows" "[I" ∈ wsX5_copy := by decide +kernel
theorem ddX5_copy : yX5_copy.cls = RX5 ∧ yX5_copy.cls ≠ "java/lang/invoke/MethodHandle" ∧ yX5_copy.cls ≠ "java/lang/invoke/VarHandle" ∧ (parseMethodDescriptor yX5_copy.desc).map (fun d => d.parameters.length) = some 5 := by decide +kernel
set_option maxHeartbeats 4000000 in
set_option maxRecDepth 100000 in
theorem lX5_copy_104_ok {h : Nat → Nat} {X : Cx} {l0 : Launch} {D0 : va_G} {K0 : Nat → ClassId} (p1 : Int32) (p2 : Int32) (p3 : Int32) (p4 : Int32) (p5 : Int32) {k133 : pS → Option (Int32 × pS)} {r : Int32} {u : pS} (C : Cok wM h X l0 ({ frames := 2, cells := 0, slots := 0, locals := 42 } : Room) D0 K0 cX5_copy 7 RX5 wsX5_copy) (hret : ∀ (pc : Nat) (lv' : List (Nat × Value)), decode cX5_copy pc = .ok (.ireturn, 1) → G wM h X pc lv' [.int r] u) (hk133 : ∀  (σ : pS), k133 σ = some (r, u) → G wM h X 133 [(0, .ref (h 0)), (3, .int p3), (4, .int p4), (5, .int p5)] [] σ) : ∀ (F : Nat) (v6 : Int32) (σ : pS), lX5_copy_104 p1 p2 p3 p4 p5 k133 F v6 σ = some (r, u) → G wM h X 104 [(0, .ref (h 0)), (1, .int p1), (2, .int p2), (3, .int p3), (4, .int p4), (5, .int p5), (6, .int v6)] [] σ := by
  intro F
  induction F with
  | zero => intro v6 σ hf; exact absurd hf (by simp [lX5_copy_104])
  | succ F ih =>
    intro v6 σ hf
    rw [lX5_copy_104.eq_2] at hf
    refine g_iload C 6 dX5_copy_104 rfl ?_
    refine g_iload C 5 dX5_copy_106 rfl ?_
    refine g_icmp_ge (tgt := 133) hf C dX5_copy_108 (by decide) (fun hf => ?_) (fun hf => ?_)
    · refine g_lv [0, 3, 4, 5] rfl ?_
      exact hk133 σ hf
    · refine g_aload_n C 0 dX5_copy_111 rfl rfl ?_
      refine g_getC (n := 4) C in_X5_copy_X5 (k := 7) lk_X5_copy_1 rfl (Nat.le_of_ble_eq_true rfl) rfl (Nat.le_of_ble_eq_true rfl) rfl dX5_copy_112 ?_
      refine g_iload C 6 dX5_copy_115 rfl ?_
      refine g_aload_n C 0 dX5_copy_117 rfl rfl ?_
      refine g_iload_n C 1 dX5_copy_118 rfl rfl ?_
      refine g_iload_n C 2 dX5_copy_119 rfl rfl ?_
      refine g_iload C 6 dX5_copy_120 rfl ?_
      refine g_iadd C dX5_copy_122 ?_
      obtain ⟨r14, hc13, hf⟩ := g_bind hf
      refine g_callVi C (mX5_rowAt l0 D0 K0 h σ p1 (p2 + v6) hc13) gX5_copy_X5_rowAt rfl rfl rfl ddX5_rowAt ⟨(Nat.le_of_ble_eq_true rfl), (Nat.le_of_ble_eq_true rfl)⟩ rfl (Nat.le_of_ble_eq_true rfl) rfl rfl rfl (Nat.le_of_ble_eq_true rfl) dX5_copy_123 ?_
      refine g_iast hf C rfl (Nat.le_of_ble_eq_true rfl) dX5_copy_126 (fun hf => ?_)
      refine g_lets hf (fun σ15 hf => ?_)
      refine g_iinc C 6 [1, 2, 3, 4, 5, 6, 0] dX5_copy_127 rfl ic_1 (Nat.le_of_ble_eq_true rfl) rfl ?_
      refine g_goto (tgt := 104) C dX5_copy_130 (by decide) ?_
      exact ih (v6 + (1 : Int32)) σ15 hf
set_option maxHeartbeats 4000000 in
set_option maxRecDepth 100000 in
theorem lX5_copy_136_ok {h : Nat → Nat} {X : Cx} {l0 : Launch} {D0 : va_G} {K0 : Nat → ClassId} (p3 : Int32) (p4 : Int32) (p5 : Int32) {k171 : pS → Option (Int32 × pS)} {r : Int32} {u : pS} (C : Cok wM h X l0 ({ frames := 2, cells := 0, slots := 0, locals := 42 } : Room) D0 K0 cX5_copy 7 RX5 wsX5_copy) (hret : ∀ (pc : Nat) (lv' : List (Nat × Value)), decode cX5_copy pc = .ok (.ireturn, 1) → G wM h X pc lv' [.int r] u) (hk171 : ∀  (σ : pS), k171 σ = some (r, u) → G wM h X 171 [] [] σ) : ∀ (F : Nat) (v6 : Int32) (σ : pS), lX5_copy_136 p3 p4 p5 k171 F v6 σ = some (r, u) → G wM h X 136 [(0, .ref (h 0)), (3, .int p3), (4, .int p4), (5, .int p5), (6, .int v6)] [] σ := by
  intro F
  induction F with
  | zero => intro v6 σ hf; exact absurd hf (by simp [lX5_copy_136])
  | succ F ih =>
    intro v6 σ hf
    rw [lX5_copy_136.eq_2] at hf
    refine g_iload C 4 dX5_copy_136 rfl ?_
    refine g_iload C 3 dX5_copy_138 rfl ?_
    refine g_icmp_ge (tgt := 171) hf C dX5_copy_140 (by decide) (fun hf => ?_) (fun hf => ?_)
    · refine g_lv [] rfl ?_
      exact hk171 σ hf
    · refine g_aload_n C 0 dX5_copy_143 rfl rfl ?_
      refine g_getC (n := 3) C in_X5_copy_X5 (k := 6) lk_X5_copy_2 rfl (Nat.le_of_ble_eq_true rfl) rfl (Nat.le_of_ble_eq_true rfl) rfl dX5_copy_144 ?_
      refine g_bipush C dX5_copy_147 bp_60 ?_
      refine g_iload_n C 1 dX5_copy_149 rfl rfl ?_
      refine g_imul C dX5_copy_150 ?_
      refine g_iload C 2 dX5_copy_151 rfl ?_
      refine g_iadd C dX5_copy_153 ?_
      refine g_iload C 4 dX5_copy_154 rfl ?_
      refine g_iadd C dX5_copy_156 ?_
      refine g_aload_n C 0 dX5_copy_157 rfl rfl ?_
      refine g_getC (n := 4) C in_X5_copy_X5 (k := 7) lk_X5_copy_1 rfl (Nat.le_of_ble_eq_true rfl) rfl (Nat.le_of_ble_eq_true rfl) rfl dX5_copy_158 ?_
      refine g_iload C 4 dX5_copy_161 rfl ?_
      refine g_iald hf C rfl (Nat.le_of_ble_eq_true rfl) dX5_copy_163 (fun hf => ?_)
      refine g_iast hf C rfl (Nat.le_of_ble_eq_true rfl) dX5_copy_164 (fun hf => ?_)
      refine g_lets hf (fun σ17 hf => ?_)
      refine g_iinc C 4 [1, 2, 3, 4, 0] dX5_copy_165 rfl ic_1 (Nat.le_of_ble_eq_true rfl) rfl ?_
      refine g_goto (tgt := 136) C dX5_copy_168 (by decide) ?_
      exact ih (v6 + (1 : Int32)) σ17 hf
set_option maxHeartbeats 4000000 in
set_option maxRecDepth 100000 in
theorem mX5_copy (l0 : Launch) (D0 : va_G) (K0 : Nat → ClassId) (h : Nat → Nat) (σ : pS) (a1 : Int32) (a2 : Int32) (a3 : Int32) (a4 : Int32) (a5 : Int32) {r : Int32} {u : pS} (hf : fX5_copy σ a1 a2 a3 a4 a5 = some (r, u)) : Met l0 yX5_copy wsX5_copy ({ frames := 2, cells := 0, slots := 0, locals := 42 } : Room) (va_Pc [.ref (h 0), .int a1, .int a2, .int a3, .int a4, .int a5] (pIn wM D0 K0 h σ)) (va_Qi (fun r' u' => r' = r ∧ u' = u) (pOut wM D0 K0 h) (pA wM h)) 0 0 (pA wM h) := by
  refine p_metI (lv := [(0, .ref (h 0)), (1, .int a1), (2, .int a2), (3, .int a3), (4, .int a4), (5, .int a5)]) (by decide +kernel) rfl rfl (Nat.le_of_ble_eq_true rfl) rfl (fun X C hret => ?_)
  unfold fX5_copy at hf
  refine g_iload_n C 1 dX5_copy_0 rfl rfl ?_
  obtain ⟨r2, hc1, hf⟩ := g_bind hf
  refine g_callSi C (mX5_isRow l0 D0 K0 h σ a1 hc1) gX5_copy_X5_isRow rfl rfl rfl ddX5_isRow ⟨(Nat.le_of_ble_eq_true rfl), (Nat.le_of_ble_eq_true rfl)⟩ rfl rfl (Nat.le_of_ble_eq_true rfl) dX5_copy_1 ?_
  refine g_if_eq (tgt := 14) hf C dX5_copy_4 (by decide) (fun hf => ?_) (fun hf => ?_)
  · refine g_iconst C dX5_copy_14 ic_m1 ?_
    exact g_retiW hf hret dX5_copy_15
  · refine g_iload_n C 3 dX5_copy_7 rfl rfl ?_
    obtain ⟨r4, hc3, hf⟩ := g_bind hf
    refine g_callSi C (mX5_isRow l0 D0 K0 h σ a3 hc3) gX5_copy_X5_isRow rfl rfl rfl ddX5_isRow ⟨(Nat.le_of_ble_eq_true rfl), (Nat.le_of_ble_eq_true rfl)⟩ rfl rfl (Nat.le_of_ble_eq_true rfl) dX5_copy_8 ?_
    refine g_if_ne (tgt := 16) hf C dX5_copy_11 (by decide) (fun hf => ?_) (fun hf => ?_)
    · refine g_iload C 5 dX5_copy_16 rfl ?_
      refine g_if_ge (tgt := 27) hf C dX5_copy_18 (by decide) (fun hf => ?_) (fun hf => ?_)
      · refine g_aload_n C 0 dX5_copy_27 rfl rfl ?_
        refine g_getC (n := 2) C in_X5_copy_X5 (k := 5) lk_X5_copy_0 rfl (Nat.le_of_ble_eq_true rfl) rfl (Nat.le_of_ble_eq_true rfl) rfl dX5_copy_28 ?_
        refine g_iload_n C 1 dX5_copy_31 rfl rfl ?_
        refine g_iald hf C rfl (Nat.le_of_ble_eq_true rfl) dX5_copy_32 (fun hf => ?_)
        refine g_join (P := fun j => j = some (r, u) → G wM h X 45 [(0, .ref (h 0))] [] σ) hf (fun hf => ?_) (fun j5 hj5 hf => ?_)
        · refine g_aload_n C 0 dX5_copy_45 rfl rfl ?_
          refine g_iconst C dX5_copy_46 ic_1 ?_
          obtain ⟨r7, σ8, hc6, hf⟩ := g_pbind hf
          refine g_callVi C (mX5_meets l0 D0 K0 h σ (1 : Int32) hc6) gX5_copy_X5_meets rfl rfl rfl ddX5_meets ⟨(Nat.le_of_ble_eq_true rfl), (Nat.le_of_ble_eq_true rfl)⟩ rfl (Nat.le_of_ble_eq_true rfl) rfl rfl rfl (Nat.le_of_ble_eq_true rfl) dX5_copy_47 ?_
          exact g_retiW hf hret dX5_copy_50
        · refine g_if_lt (tgt := 45) hf C dX5_copy_33 (by decide) (fun hf => ?_) (fun hf => ?_)
          · refine g_lv [0] rfl ?_
            exact hj5 hf
          · refine g_aload_n C 0 dX5_copy_36 rfl rfl ?_
            refine g_getC (n := 2) C in_X5_copy_X5 (k := 5) lk_X5_copy_0 rfl (Nat.le_of_ble_eq_true rfl) rfl (Nat.le_of_ble_eq_true rfl) rfl dX5_copy_37 ?_
            refine g_iload_n C 3 dX5_copy_40 rfl rfl ?_
            refine g_iald hf C rfl (Nat.le_of_ble_eq_true rfl) dX5_copy_41 (fun hf => ?_)
            refine g_if_ge (tgt := 51) hf C dX5_copy_42 (by decide) (fun hf => ?_) (fun hf => ?_)
            · refine g_iload_n C 2 dX5_copy_51 rfl rfl ?_
              refine g_join (P := fun j => j = some (r, u) → G wM h X 95 [(0, .ref (h 0))] [] σ) hf (fun hf => ?_) (fun j9 hj9 hf => ?_)
              · refine g_aload_n C 0 dX5_copy_95 rfl rfl ?_
                refine g_iconst C dX5_copy_96 ic_2 ?_
                obtain ⟨r11, σ12, hc10, hf⟩ := g_pbind hf
                refine g_callVi C (mX5_meets l0 D0 K0 h σ (2 : Int32) hc10) gX5_copy_X5_meets rfl rfl rfl ddX5_meets ⟨(Nat.le_of_ble_eq_true rfl), (Nat.le_of_ble_eq_true rfl)⟩ rfl (Nat.le_of_ble_eq_true rfl) rfl rfl rfl (Nat.le_of_ble_eq_true rfl) dX5_copy_97 ?_
                exact g_retiW hf hret dX5_copy_100
              · refine g_if_lt (tgt := 95) hf C dX5_copy_52 (by decide) (fun hf => ?_) (fun hf => ?_)
                · refine g_lv [0] rfl ?_
                  exact hj9 hf
                · refine g_iload C 4 dX5_copy_55 rfl ?_
                  refine g_if_lt (tgt := 95) hf C dX5_copy_57 (by decide) (fun hf => ?_) (fun hf => ?_)
                  · refine g_lv [0] rfl ?_
                    exact hj9 hf
                  · refine g_iload_n C 2 dX5_copy_60 rfl rfl ?_
                    refine g_i2l C dX5_copy_61 ?_
                    refine g_iload C 5 dX5_copy_62 rfl ?_
                    refine g_i2l C dX5_copy_64 ?_
                    refine g_ladd C dX5_copy_65 ?_
                    refine g_aload_n C 0 dX5_copy_66 rfl rfl ?_
                    refine g_getC (n := 2) C in_X5_copy_X5 (k := 5) lk_X5_copy_0 rfl (Nat.le_of_ble_eq_true rfl) rfl (Nat.le_of_ble_eq_true rfl) rfl dX5_copy_67 ?_
                    refine g_iload_n C 1 dX5_copy_70 rfl rfl ?_
                    refine g_iald hf C rfl (Nat.le_of_ble_eq_true rfl) dX5_copy_71 (fun hf => ?_)
                    refine g_i2l C dX5_copy_72 ?_
                    refine g_lcmp C dX5_copy_73 ?_
                    refine g_if_gt (tgt := 95) hf C dX5_copy_74 (by decide) (fun hf => ?_) (fun hf => ?_)
                    · refine g_lv [0] rfl ?_
                      exact hj9 hf
                    · refine g_iload C 4 dX5_copy_77 rfl ?_
                      refine g_i2l C dX5_copy_79 ?_
                      refine g_iload C 5 dX5_copy_80 rfl ?_
                      refine g_i2l C dX5_copy_82 ?_
                      refine g_ladd C dX5_copy_83 ?_
                      refine g_aload_n C 0 dX5_copy_84 rfl rfl ?_
                      refine g_getC (n := 2) C in_X5_copy_X5 (k := 5) lk_X5_copy_0 rfl (Nat.le_of_ble_eq_true rfl) rfl (Nat.le_of_ble_eq_true rfl) rfl dX5_copy_85 ?_
                      refine g_iload_n C 3 dX5_copy_88 rfl rfl ?_
                      refine g_iald hf C rfl (Nat.le_of_ble_eq_true rfl) dX5_copy_89 (fun hf => ?_)
                      refine g_i2l C dX5_copy_90 ?_
                      refine g_lcmp C dX5_copy_91 ?_
                      refine g_if_le (tgt := 101) hf C dX5_copy_92 (by decide) (fun hf => ?_) (fun hf => ?_)
                      · refine g_iconst C dX5_copy_101 ic_0 ?_
                        refine g_istore C [1, 2, 3, 4, 5, 6, 0] dX5_copy_102 (Nat.le_of_ble_eq_true rfl) rfl ?_
                        refine lX5_copy_104_ok a1 a2 a3 a4 a5 C hret (fun σ16 hf => ?_) FU (0 : Int32) σ hf
                        refine g_iconst C dX5_copy_133 ic_0 ?_
                        refine g_istore C [1, 2, 3, 4, 0] dX5_copy_134 (Nat.le_of_ble_eq_true rfl) rfl ?_
                        refine lX5_copy_136_ok a3 a4 a5 C hret (fun σ18 hf => ?_) FU (0 : Int32) σ16 hf
                        refine g_iconst C dX5_copy_171 ic_1 ?_
                        exact g_retiW hf hret dX5_copy_172
                      · refine g_lv [0] rfl ?_
                        exact hj9 hf
            · refine g_lv [0] rfl ?_
              exact hj5 hf
      · refine g_aload_n C 0 dX5_copy_21 rfl rfl ?_
        refine g_iconst C dX5_copy_22 ic_5 ?_
        obtain ⟨r20, σ21, hc19, hf⟩ := g_pbind hf
        refine g_callVi C (mX5_meets l0 D0 K0 h σ (5 : Int32) hc19) gX5_copy_X5_meets rfl rfl rfl ddX5_meets ⟨(Nat.le_of_ble_eq_true rfl), (Nat.le_of_ble_eq_true rfl)⟩ rfl (Nat.le_of_ble_eq_true rfl) rfl rfl rfl (Nat.le_of_ble_eq_true rfl) dX5_copy_23 ?_
        exact g_retiW hf hret dX5_copy_26
    · refine g_iconst C dX5_copy_14 ic_m1 ?_
      exact g_retiW hf hret dX5_copy_15
/-! X5_mean -/
theorem in_X5_mean_X5 : ∀ q ∈ u_ws RX5 TX5 30, q ∈ wsX5_mean := by decide +kernel
theorem lk_X5_mean_0 : Cond.fieldLink RX5 13 "EmptyHouseModel" "sizes" "[I" ∈ wsX5_mean := by decide +kernel
theorem ddX5_mean : yX5_mean.cls = RX5 ∧ yX5_mean.cls ≠ "java/lang/invoke/MethodHandle" ∧ yX5_mean.cls ≠ "java/lang/invoke/VarHandle" ∧ (parseMethodDescriptor yX5_mean.desc).map (fun d => d.parameters.length) = some 1 := by decide +kernel
set_option maxHeartbeats 4000000 in
set_option maxRecDepth 100000 in
theorem lX5_mean_44_ok {h : Nat → Nat} {X : Cx} {l0 : Launch} {D0 : va_G} {K0 : Nat → ClassId} (σ : pS) (p1 : Int32) {k72 : Int64 → Option (Int32 × pS)} {r : Int32} {u : pS} (C : Cok wM h X l0 ({ frames := 2, cells := 0, slots := 0, locals := 42 } : Room) D0 K0 cX5_mean 5 RX5 wsX5_mean) (hret : ∀ (pc : Nat) (lv' : List (Nat × Value)), decode cX5_mean pc = .ok (.ireturn, 1) → G wM h X pc lv' [.int r] u) (hk72 : ∀ (z2 : Int64), k72 z2 = some (r, u) → G wM h X 72 [(0, .ref (h 0)), (1, .int p1), (2, .long z2)] [] σ) : ∀ (F : Nat) (v2 : Int64) (v4 : Int32), lX5_mean_44 σ p1 k72 F v2 v4 = some (r, u) → G wM h X 44 [(0, .ref (h 0)), (1, .int p1), (2, .long v2), (4, .int v4)] [] σ := by
  intro F
  induction F with
  | zero => intro v2 v4 hf; exact absurd hf (by simp [lX5_mean_44])
  | succ F ih =>
    intro v2 v4 hf
    rw [lX5_mean_44.eq_2] at hf
    refine g_iload C 3 dX5_mean_44 rfl ?_
    refine g_aload_n C 0 dX5_mean_46 rfl rfl ?_
    refine g_getC (n := 2) C in_X5_mean_X5 (k := 5) lk_X5_mean_0 rfl (Nat.le_of_ble_eq_true rfl) rfl (Nat.le_of_ble_eq_true rfl) rfl dX5_mean_47 ?_
    refine g_iload_n C 1 dX5_mean_50 rfl rfl ?_
    refine g_iald hf C rfl (Nat.le_of_ble_eq_true rfl) dX5_mean_51 (fun hf => ?_)
    refine g_icmp_ge (tgt := 72) hf C dX5_mean_52 (by decide) (fun hf => ?_) (fun hf => ?_)
    · refine g_lv [0, 1, 2] rfl ?_
      exact hk72 v2 hf
    · refine g_lload_n C 2 dX5_mean_55 rfl rfl ?_
      refine g_aload_n C 0 dX5_mean_56 rfl rfl ?_
      refine g_iload_n C 1 dX5_mean_57 rfl rfl ?_
      refine g_iload C 3 dX5_mean_58 rfl ?_
      obtain ⟨r4, hc3, hf⟩ := g_bind hf
      refine g_callVi C (mX5_rowAt l0 D0 K0 h σ p1 v4 hc3) gX5_mean_X5_rowAt rfl rfl rfl ddX5_rowAt ⟨(Nat.le_of_ble_eq_true rfl), (Nat.le_of_ble_eq_true rfl)⟩ rfl (Nat.le_of_ble_eq_true rfl) rfl rfl rfl (Nat.le_of_ble_eq_true rfl) dX5_mean_60 ?_
      refine g_i2l C dX5_mean_63 ?_
      refine g_ladd C dX5_mean_64 ?_
      refine g_letl hf (fun x5 hf => ?_)
      refine g_lstore_n C [1, 2, 0, 3] dX5_mean_65 rfl (Nat.le_of_ble_eq_true rfl) rfl ?_
      refine g_iinc C 3 [1, 2, 3, 0] dX5_mean_66 rfl ic_1 (Nat.le_of_ble_eq_true rfl) rfl ?_
      refine g_goto (tgt := 44) C dX5_mean_69 (by decide) ?_
      exact ih x5 (v4 + (1 : Int32)) hf
set_option maxHeartbeats 4000000 in
set_option maxRecDepth 100000 in
theorem mX5_mean (l0 : Launch) (D0 : va_G) (K0 : Nat → ClassId) (h : Nat → Nat) (σ : pS) (a1 : Int32) {r : Int32} {u : pS} (hf : fX5_mean σ a1 = some (r, u)) : Met l0 yX5_mean wsX5_mean ({ frames := 2, cells := 0, slots := 0, locals := 42 } : Room) (va_Pc [.ref (h 0), .int a1] (pIn wM D0 K0 h σ)) (va_Qi (fun r' u' => r' = r ∧ u' = u) (pOut wM D0 K0 h) (pA wM h)) 0 0 (pA wM h) := by
  refine p_metI (lv := [(0, .ref (h 0)), (1, .int a1)]) (by decide +kernel) rfl rfl (Nat.le_of_ble_eq_true rfl) rfl (fun X C hret => ?_)
  unfold fX5_mean at hf
  refine g_iload_n C 1 dX5_mean_0 rfl rfl ?_
  obtain ⟨r2, hc1, hf⟩ := g_bind hf
  refine g_callSi C (mX5_isRow l0 D0 K0 h σ a1 hc1) gX5_mean_X5_isRow rfl rfl rfl ddX5_isRow ⟨(Nat.le_of_ble_eq_true rfl), (Nat.le_of_ble_eq_true rfl)⟩ rfl rfl (Nat.le_of_ble_eq_true rfl) dX5_mean_1 ?_
  refine g_if_ne (tgt := 9) hf C dX5_mean_4 (by decide) (fun hf => ?_) (fun hf => ?_)
  · refine g_aload_n C 0 dX5_mean_9 rfl rfl ?_
    refine g_getC (n := 2) C in_X5_mean_X5 (k := 5) lk_X5_mean_0 rfl (Nat.le_of_ble_eq_true rfl) rfl (Nat.le_of_ble_eq_true rfl) rfl dX5_mean_10 ?_
    refine g_iload_n C 1 dX5_mean_13 rfl rfl ?_
    refine g_iald hf C rfl (Nat.le_of_ble_eq_true rfl) dX5_mean_14 (fun hf => ?_)
    refine g_if_ge (tgt := 24) hf C dX5_mean_15 (by decide) (fun hf => ?_) (fun hf => ?_)
    · refine g_aload_n C 0 dX5_mean_24 rfl rfl ?_
      refine g_getC (n := 2) C in_X5_mean_X5 (k := 5) lk_X5_mean_0 rfl (Nat.le_of_ble_eq_true rfl) rfl (Nat.le_of_ble_eq_true rfl) rfl dX5_mean_25 ?_
      refine g_iload_n C 1 dX5_mean_28 rfl rfl ?_
      refine g_iald hf C rfl (Nat.le_of_ble_eq_true rfl) dX5_mean_29 (fun hf => ?_)
      refine g_if_ne (tgt := 39) hf C dX5_mean_30 (by decide) (fun hf => ?_) (fun hf => ?_)
      · refine g_lconst C dX5_mean_39 lc_0 ?_
        refine g_lstore_n C [1, 2, 0] dX5_mean_40 rfl (Nat.le_of_ble_eq_true rfl) rfl ?_
        refine g_iconst C dX5_mean_41 ic_0 ?_
        refine g_istore C [1, 2, 3, 0] dX5_mean_42 (Nat.le_of_ble_eq_true rfl) rfl ?_
        refine lX5_mean_44_ok σ a1 C hret (fun y6 hf => ?_) FU (0 : Int64) (0 : Int32) hf
        refine g_aload_n C 0 dX5_mean_72 rfl rfl ?_
        refine g_lload_n C 2 dX5_mean_73 rfl rfl ?_
        refine g_aload_n C 0 dX5_mean_74 rfl rfl ?_
        refine g_getC (n := 2) C in_X5_mean_X5 (k := 5) lk_X5_mean_0 rfl (Nat.le_of_ble_eq_true rfl) rfl (Nat.le_of_ble_eq_true rfl) rfl dX5_mean_75 ?_
        refine g_iload_n C 1 dX5_mean_78 rfl rfl ?_
        refine g_iald hf C rfl (Nat.le_of_ble_eq_true rfl) dX5_mean_79 (fun hf => ?_)
        refine g_i2l C dX5_mean_80 ?_
        refine g_ldiv hf C dX5_mean_81 (fun hf => ?_)
        refine g_l2i C dX5_mean_82 ?_
        refine g_iconst C dX5_mean_83 ic_1 ?_
        obtain ⟨r8, σ9, hc7, hf⟩ := g_pbind hf
        refine g_callVi C (mX5_tells l0 D0 K0 h σ ((y6 / ((pI σ 2 (a1).toNatClampNeg)).toInt64)).toInt32 (1 : Int32) hc7) gX5_mean_X5_tells rfl rfl rfl ddX5_tells ⟨(Nat.le_of_ble_eq_true rfl), (Nat.le_of_ble_eq_true rfl)⟩ rfl (Nat.le_of_ble_eq_true rfl) rfl rfl rfl (Nat.le_of_ble_eq_true rfl) dX5_mean_84 ?_
        exact g_retiW hf hret dX5_mean_87
      · refine g_aload_n C 0 dX5_mean_33 rfl rfl ?_
        refine g_iconst C dX5_mean_34 ic_4 ?_
        obtain ⟨r11, σ12, hc10, hf⟩ := g_pbind hf
        refine g_callVi C (mX5_meets l0 D0 K0 h σ (4 : Int32) hc10) gX5_mean_X5_meets rfl rfl rfl ddX5_meets ⟨(Nat.le_of_ble_eq_true rfl), (Nat.le_of_ble_eq_true rfl)⟩ rfl (Nat.le_of_ble_eq_true rfl) rfl rfl rfl (Nat.le_of_ble_eq_true rfl) dX5_mean_35 ?_
        exact g_retiW hf hret dX5_mean_38
    · refine g_aload_n C 0 dX5_mean_18 rfl rfl ?_
      refine g_iconst C dX5_mean_19 ic_1 ?_
      obtain ⟨r14, σ15, hc13, hf⟩ := g_pbind hf
      refine g_callVi C (mX5_meets l0 D0 K0 h σ (1 : Int32) hc13) gX5_mean_X5_meets rfl rfl rfl ddX5_meets ⟨(Nat.le_of_ble_eq_true rfl), (Nat.le_of_ble_eq_true rfl)⟩ rfl (Nat.le_of_ble_eq_true rfl) rfl rfl rfl (Nat.le_of_ble_eq_true rfl) dX5_mean_20 ?_
      exact g_retiW hf hret dX5_mean_23
  · refine g_iconst C dX5_mean_7 ic_m1 ?_
    exact g_retiW hf hret dX5_mean_8
/-! X5_isText -/
theorem ddX5_isText : yX5_isText.cls ≠ "java/lang/invoke/MethodHandle" ∧ yX5_isText.cls ≠ "java/lang/invoke/VarHandle" ∧ (parseMethodDescriptor yX5_isText.desc).map (fun d => d.parameters.length) = some 1 := by decide +kernel
set_option maxHeartbeats 4000000 in
set_option maxRecDepth 100000 in
theorem mX5_isText (l0 : Launch) (D0 : va_G) (K0 : Nat → ClassId) (h : Nat → Nat) (σ : pS) (a1 : Int32) {r : Int32} (hf : fX5_isText a1 = some r) : Met l0 yX5_isText wsX5_isText ({ frames := 1, cells := 0, slots := 0, locals := 22 } : Room) (va_Pc [.int a1] (pIn wM D0 K0 h σ)) (va_Qi (fun r' u' => r' = r ∧ u' = σ) (pOut wM D0 K0 h) (pA wM h)) 0 0 (pA wM h) := by
  refine p_metZ (lv := [(0, .int a1)]) (by decide +kernel) rfl rfl (Nat.le_of_ble_eq_true rfl) rfl (fun X C hret => ?_)
  unfold fX5_isText at hf
  refine g_iload_n C 0 dX5_isText_0 rfl rfl ?_
  refine g_iconst C dX5_isText_1 ic_0 ?_
  refine g_iconst C dX5_isText_2 ic_3 ?_
  obtain ⟨r2, hc1, hf⟩ := g_bind hf
  refine g_callSi C (mX5_in l0 D0 K0 h σ a1 (0 : Int32) (3 : Int32) hc1) gX5_isText_X5_in rfl rfl rfl ddX5_in ⟨(Nat.le_of_ble_eq_true rfl), (Nat.le_of_ble_eq_true rfl)⟩ rfl rfl (Nat.le_of_ble_eq_true rfl) dX5_isText_3 ?_
  exact g_retzG hf hret dX5_isText_6
/-! X5_text -/
theorem in_X5_text_X5 : ∀ q ∈ u_ws RX5 TX5 30, q ∈ wsX5_text := by decide +kernel
theorem lk_X5_text_0 : Cond.fieldLink RX5 22 "EmptyHouseModel" "textSizes" "[I" ∈ wsX5_text := by decide +kernel
theorem lk_X5_text_1 : Cond.fieldLink RX5 25 "EmptyHouseModel" "bytes" "[B" ∈ wsX5_text := by decide +kernel
theorem ddX5_text : yX5_text.cls = RX5 ∧ yX5_text.cls ≠ "java/lang/invoke/MethodHandle" ∧ yX5_text.cls ≠ "java/lang/invoke/VarHandle" ∧ (parseMethodDescriptor yX5_text.desc).map (fun d => d.parameters.length) = some 2 := by decide +kernel
set_option maxHeartbeats 4000000 in
set_option maxRecDepth 100000 in
theorem lX5_text_34_ok {h : Nat → Nat} {X : Cx} {l0 : Launch} {D0 : va_G} {K0 : Nat → ClassId} (p1 : Int32) (p2 : Int32) {k59 : pS → Option (Int32 × pS)} {r : Int32} {u : pS} (C : Cok wM h X l0 ({ frames := 2, cells := 0, slots := 0, locals := 42 } : Room) D0 K0 cX5_text 4 RX5 wsX5_text) (hret : ∀ (pc : Nat) (lv' : List (Nat × Value)), decode cX5_text pc = .ok (.ireturn, 1) → G wM h X pc lv' [.int r] u) (hk59 : ∀  (σ : pS), k59 σ = some (r, u) → G wM h X 59 [(2, .int p2)] [] σ) : ∀ (F : Nat) (v3 : Int32) (σ : pS), lX5_text_34 p1 p2 k59 F v3 σ = some (r, u) → G wM h X 34 [(0, .ref (h 0)), (1, .int p1), (2, .int p2), (3, .int v3)] [] σ := by
  intro F
  induction F with
  | zero => intro v3 σ hf; exact absurd hf (by simp [lX5_text_34])
  | succ F ih =>
    intro v3 σ hf
    rw [lX5_text_34.eq_2] at hf
    refine g_iload_n C 3 dX5_text_34 rfl rfl ?_
    refine g_bipush C dX5_text_35 bp_120 ?_
    refine g_icmp_ge (tgt := 59) hf C dX5_text_37 (by decide) (fun hf => ?_) (fun hf => ?_)
    · refine g_lv [2] rfl ?_
      exact hk59 σ hf
    · refine g_aload_n C 0 dX5_text_40 rfl rfl ?_
      refine g_getC (n := 6) C in_X5_text_X5 (k := 9) lk_X5_text_1 rfl (Nat.le_of_ble_eq_true rfl) rfl (Nat.le_of_ble_eq_true rfl) rfl dX5_text_41 ?_
      refine g_bipush C dX5_text_44 bp_120 ?_
      refine g_iload_n C 1 dX5_text_46 rfl rfl ?_
      refine g_imul C dX5_text_47 ?_
      refine g_iload_n C 3 dX5_text_48 rfl rfl ?_
      refine g_iadd C dX5_text_49 ?_
      refine g_bipush C dX5_text_50 bp_32 ?_
      refine g_bast hf C rfl (Nat.le_of_ble_eq_true rfl) dX5_text_52 (fun hf => ?_)
      refine g_lets hf (fun σ4 hf => ?_)
      refine g_iinc C 3 [1, 2, 3, 0] dX5_text_53 rfl ic_1 (Nat.le_of_ble_eq_true rfl) rfl ?_
      refine g_goto (tgt := 34) C dX5_text_56 (by decide) ?_
      exact ih (v3 + (1 : Int32)) σ4 hf
set_option maxHeartbeats 4000000 in
set_option maxRecDepth 100000 in
theorem mX5_text (l0 : Launch) (D0 : va_G) (K0 : Nat → ClassId) (h : Nat → Nat) (σ : pS) (a1 : Int32) (a2 : Int32) {r : Int32} {u : pS} (hf : fX5_text σ a1 a2 = some (r, u)) : Met l0 yX5_text wsX5_text ({ frames := 2, cells := 0, slots := 0, locals := 42 } : Room) (va_Pc [.ref (h 0), .int a1, .int a2] (pIn wM D0 K0 h σ)) (va_Qi (fun r' u' => r' = r ∧ u' = u) (pOut wM D0 K0 h) (pA wM h)) 0 0 (pA wM h) := by
  refine p_metI (lv := [(0, .ref (h 0)), (1, .int a1), (2, .int a2)]) (by decide +kernel) rfl rfl (Nat.le_of_ble_eq_true rfl) rfl (fun X C hret => ?_)
  unfold fX5_text at hf
  refine g_iload_n C 1 dX5_text_0 rfl rfl ?_
  obtain ⟨r2, hc1, hf⟩ := g_bind hf
  refine g_callSi C (mX5_isText l0 D0 K0 h σ a1 hc1) gX5_text_X5_isText rfl rfl rfl ddX5_isText ⟨(Nat.le_of_ble_eq_true rfl), (Nat.le_of_ble_eq_true rfl)⟩ rfl rfl (Nat.le_of_ble_eq_true rfl) dX5_text_1 ?_
  refine g_if_eq (tgt := 13) hf C dX5_text_4 (by decide) (fun hf => ?_) (fun hf => ?_)
  · refine g_iconst C dX5_text_13 ic_m1 ?_
    exact g_retiW hf hret dX5_text_14
  · refine g_iload_n C 2 dX5_text_7 rfl rfl ?_
    refine g_bipush C dX5_text_8 bp_120 ?_
    refine g_icmp_le (tgt := 15) hf C dX5_text_10 (by decide) (fun hf => ?_) (fun hf => ?_)
    · refine g_iload_n C 2 dX5_text_15 rfl rfl ?_
      refine g_if_ge (tgt := 25) hf C dX5_text_16 (by decide) (fun hf => ?_) (fun hf => ?_)
      · refine g_aload_n C 0 dX5_text_25 rfl rfl ?_
        refine g_getC (n := 5) C in_X5_text_X5 (k := 8) lk_X5_text_0 rfl (Nat.le_of_ble_eq_true rfl) rfl (Nat.le_of_ble_eq_true rfl) rfl dX5_text_26 ?_
        refine g_iload_n C 1 dX5_text_29 rfl rfl ?_
        refine g_iload_n C 2 dX5_text_30 rfl rfl ?_
        refine g_iast hf C rfl (Nat.le_of_ble_eq_true rfl) dX5_text_31 (fun hf => ?_)
        refine g_lets hf (fun σ3 hf => ?_)
        refine g_iconst C dX5_text_32 ic_0 ?_
        refine g_istore_n C [1, 2, 3, 0] dX5_text_33 rfl (Nat.le_of_ble_eq_true rfl) rfl ?_
        refine lX5_text_34_ok a1 a2 C hret (fun σ5 hf => ?_) FU (0 : Int32) σ3 hf
        refine g_iload_n C 0 dX5_text_59 rfl rfl ?_
        exact g_retiW hf hret dX5_text_60
      · refine g_aload_n C 0 dX5_text_19 rfl rfl ?_
        refine g_iconst C dX5_text_20 ic_5 ?_
        obtain ⟨r7, σ8, hc6, hf⟩ := g_pbind hf
        refine g_callVi C (mX5_meets l0 D0 K0 h σ (5 : Int32) hc6) gX5_text_X5_meets rfl rfl rfl ddX5_meets ⟨(Nat.le_of_ble_eq_true rfl), (Nat.le_of_ble_eq_true rfl)⟩ rfl (Nat.le_of_ble_eq_true rfl) rfl rfl rfl (Nat.le_of_ble_eq_true rfl) dX5_text_21 ?_
        exact g_retiW hf hret dX5_text_24
    · refine g_iconst C dX5_text_13 ic_m1 ?_
      exact g_retiW hf hret dX5_text_14
/-! X5_put -/
theorem in_X5_put_X5 : ∀ q ∈ u_ws RX5 TX5 30, q ∈ wsX5_put := by decide +kernel
theorem lk_X5_put_0 : Cond.fieldLink RX5 22 "EmptyHouseModel" "textSizes" "[I" ∈ wsX5_put := by decide +kernel
theorem lk_X5_put_1 : Cond.fieldLink RX5 25 "EmptyHouseModel" "bytes" "[B" ∈ wsX5_put := by decide +kernel
theorem ddX5_put : yX5_put.cls = RX5 ∧ yX5_put.cls ≠ "java/lang/invoke/MethodHandle" ∧ yX5_put.cls ≠ "java/lang/invoke/VarHandle" ∧ (parseMethodDescriptor yX5_put.desc).map (fun d => d.parameters.length) = some 3 := by decide +kernel
set_option maxHeartbeats 4000000 in
set_option maxRecDepth 100000 in
theorem mX5_put (l0 : Launch) (D0 : va_G) (K0 : Nat → ClassId) (h : Nat → Nat) (σ : pS) (a1 : Int32) (a2 : Int32) (a3 : Int32) {r : Int32} {u : pS} (hf : fX5_put σ a1 a2 a3 = some (r, u)) : Met l0 yX5_put wsX5_put ({ frames := 2, cells := 0, slots := 0, locals := 42 } : Room) (va_Pc [.ref (h 0), .int a1, .int a2, .int a3] (pIn wM D0 K0 h σ)) (va_Qi (fun r' u' => r' = r ∧ u' = u) (pOut wM D0 K0 h) (pA wM h)) 0 0 (pA wM h) := by
  refine p_metI (lv := [(0, .ref (h 0)), (1, .int a1), (2, .int a2), (3, .int a3)]) (by decide +kernel) rfl rfl (Nat.le_of_ble_eq_true rfl) rfl (fun X C hret => ?_)
  unfold fX5_put at hf
  refine g_iload_n C 1 dX5_put_0 rfl rfl ?_
  obtain ⟨r2, hc1, hf⟩ := g_bind hf
  refine g_callSi C (mX5_isText l0 D0 K0 h σ a1 hc1) gX5_put_X5_isText rfl rfl rfl ddX5_isText ⟨(Nat.le_of_ble_eq_true rfl), (Nat.le_of_ble_eq_true rfl)⟩ rfl rfl (Nat.le_of_ble_eq_true rfl) dX5_put_1 ?_
  refine g_if_ne (tgt := 9) hf C dX5_put_4 (by decide) (fun hf => ?_) (fun hf => ?_)
  · refine g_aload_n C 0 dX5_put_9 rfl rfl ?_
    refine g_getC (n := 5) C in_X5_put_X5 (k := 8) lk_X5_put_0 rfl (Nat.le_of_ble_eq_true rfl) rfl (Nat.le_of_ble_eq_true rfl) rfl dX5_put_10 ?_
    refine g_iload_n C 1 dX5_put_13 rfl rfl ?_
    refine g_iald hf C rfl (Nat.le_of_ble_eq_true rfl) dX5_put_14 (fun hf => ?_)
    refine g_if_ge (tgt := 24) hf C dX5_put_15 (by decide) (fun hf => ?_) (fun hf => ?_)
    · refine g_iload_n C 2 dX5_put_24 rfl rfl ?_
      refine g_iconst C dX5_put_25 ic_0 ?_
      refine g_aload_n C 0 dX5_put_26 rfl rfl ?_
      refine g_getC (n := 5) C in_X5_put_X5 (k := 8) lk_X5_put_0 rfl (Nat.le_of_ble_eq_true rfl) rfl (Nat.le_of_ble_eq_true rfl) rfl dX5_put_27 ?_
      refine g_iload_n C 1 dX5_put_30 rfl rfl ?_
      refine g_iald hf C rfl (Nat.le_of_ble_eq_true rfl) dX5_put_31 (fun hf => ?_)
      refine g_iconst C dX5_put_32 ic_1 ?_
      refine g_isub C dX5_put_33 ?_
      obtain ⟨r4, hc3, hf⟩ := g_bind hf
      refine g_callSi C (mX5_in l0 D0 K0 h σ a2 (0 : Int32) ((pI σ 5 (a1).toNatClampNeg) - (1 : Int32)) hc3) gX5_put_X5_in rfl rfl rfl ddX5_in ⟨(Nat.le_of_ble_eq_true rfl), (Nat.le_of_ble_eq_true rfl)⟩ rfl rfl (Nat.le_of_ble_eq_true rfl) dX5_put_34 ?_
      refine g_if_ne (tgt := 46) hf C dX5_put_37 (by decide) (fun hf => ?_) (fun hf => ?_)
      · refine g_aload_n C 0 dX5_put_46 rfl rfl ?_
        refine g_getC (n := 6) C in_X5_put_X5 (k := 9) lk_X5_put_1 rfl (Nat.le_of_ble_eq_true rfl) rfl (Nat.le_of_ble_eq_true rfl) rfl dX5_put_47 ?_
        refine g_bipush C dX5_put_50 bp_120 ?_
        refine g_iload_n C 1 dX5_put_52 rfl rfl ?_
        refine g_imul C dX5_put_53 ?_
        refine g_iload_n C 2 dX5_put_54 rfl rfl ?_
        refine g_iadd C dX5_put_55 ?_
        refine g_bald hf C rfl (Nat.le_of_ble_eq_true rfl) dX5_put_56 (fun hf => ?_)
        refine g_leti hf (fun x5 hf => ?_)
        refine g_istore C [1, 2, 3, 4, 0] dX5_put_57 (Nat.le_of_ble_eq_true rfl) rfl ?_
        refine g_aload_n C 0 dX5_put_59 rfl rfl ?_
        refine g_getC (n := 6) C in_X5_put_X5 (k := 9) lk_X5_put_1 rfl (Nat.le_of_ble_eq_true rfl) rfl (Nat.le_of_ble_eq_true rfl) rfl dX5_put_60 ?_
        refine g_bipush C dX5_put_63 bp_120 ?_
        refine g_iload_n C 1 dX5_put_65 rfl rfl ?_
        refine g_imul C dX5_put_66 ?_
        refine g_iload_n C 2 dX5_put_67 rfl rfl ?_
        refine g_iadd C dX5_put_68 ?_
        refine g_iload_n C 3 dX5_put_69 rfl rfl ?_
        refine g_i2b C dX5_put_70 ?_
        refine g_bast hf C rfl (Nat.le_of_ble_eq_true rfl) dX5_put_71 (fun hf => ?_)
        refine g_lets hf (fun σ6 hf => ?_)
        refine g_sipush C dX5_put_72 sp_1000 ?_
        refine g_iload C 4 dX5_put_75 rfl ?_
        refine g_iadd C dX5_put_77 ?_
        exact g_retiW hf hret dX5_put_78
      · refine g_aload_n C 0 dX5_put_40 rfl rfl ?_
        refine g_iconst C dX5_put_41 ic_2 ?_
        obtain ⟨r8, σ9, hc7, hf⟩ := g_pbind hf
        refine g_callVi C (mX5_meets l0 D0 K0 h σ (2 : Int32) hc7) gX5_put_X5_meets rfl rfl rfl ddX5_meets ⟨(Nat.le_of_ble_eq_true rfl), (Nat.le_of_ble_eq_true rfl)⟩ rfl (Nat.le_of_ble_eq_true rfl) rfl rfl rfl (Nat.le_of_ble_eq_true rfl) dX5_put_42 ?_
        exact g_retiW hf hret dX5_put_45
    · refine g_aload_n C 0 dX5_put_18 rfl rfl ?_
      refine g_iconst C dX5_put_19 ic_1 ?_
      obtain ⟨r11, σ12, hc10, hf⟩ := g_pbind hf
      refine g_callVi C (mX5_meets l0 D0 K0 h σ (1 : Int32) hc10) gX5_put_X5_meets rfl rfl rfl ddX5_meets ⟨(Nat.le_of_ble_eq_true rfl), (Nat.le_of_ble_eq_true rfl)⟩ rfl (Nat.le_of_ble_eq_true rfl) rfl rfl rfl (Nat.le_of_ble_eq_true rfl) dX5_put_20 ?_
      exact g_retiW hf hret dX5_put_23
  · refine g_iconst C dX5_put_7 ic_m1 ?_
    exact g_retiW hf hret dX5_put_8
/-! X5_byteAt -/
theorem in_X5_byteAt_X5 : ∀ q ∈ u_ws RX5 TX5 30, q ∈ wsX5_byteAt := by decide +kernel
theorem lk_X5_byteAt_0 : Cond.fieldLink RX5 22 "EmptyHouseModel" "textSizes" "[I" ∈ wsX5_byteAt := by decide +kernel
theorem lk_X5_byteAt_1 : Cond.fieldLink RX5 25 "EmptyHouseModel" "bytes" "[B" ∈ wsX5_byteAt := by decide +kernel
theorem ddX5_byteAt : yX5_byteAt.cls = RX5 ∧ yX5_byteAt.cls ≠ "java/lang/invoke/MethodHandle" ∧ yX5_byteAt.cls ≠ "java/lang/invoke/VarHandle" ∧ (parseMethodDescriptor yX5_byteAt.desc).map (fun d => d.parameters.length) = some 2 := by decide +kernel
set_option maxHeartbeats 4000000 in
set_option maxRecDepth 100000 in
theorem mX5_byteAt (l0 : Launch) (D0 : va_G) (K0 : Nat → ClassId) (h : Nat → Nat) (σ : pS) (a1 : Int32) (a2 : Int32) {r : Int32} (hf : fX5_byteAt σ a1 a2 = some r) : Met l0 yX5_byteAt wsX5_byteAt ({ frames := 0, cells := 0, slots := 0, locals := 0 } : Room) (va_Pc [.ref (h 0), .int a1, .int a2] (pIn wM D0 K0 h σ)) (va_Qi (fun r' u' => r' = r ∧ u' = σ) (pOut wM D0 K0 h) (pA wM h)) 0 0 (pA wM h) := by
  refine p_metI (lv := [(0, .ref (h 0)), (1, .int a1), (2, .int a2)]) (by decide +kernel) rfl rfl (Nat.le_of_ble_eq_true rfl) rfl (fun X C hret => ?_)
  unfold fX5_byteAt at hf
  refine g_iload_n C 2 dX5_byteAt_0 rfl rfl ?_
  refine g_aload_n C 0 dX5_byteAt_1 rfl rfl ?_
  refine g_getC (n := 5) C in_X5_byteAt_X5 (k := 8) lk_X5_byteAt_0 rfl (Nat.le_of_ble_eq_true rfl) rfl (Nat.le_of_ble_eq_true rfl) rfl dX5_byteAt_2 ?_
  refine g_iload_n C 1 dX5_byteAt_5 rfl rfl ?_
  refine g_iald hf C rfl (Nat.le_of_ble_eq_true rfl) dX5_byteAt_6 (fun hf => ?_)
  refine g_icmp_ge (tgt := 24) hf C dX5_byteAt_7 (by decide) (fun hf => ?_) (fun hf => ?_)
  · refine g_iconst C dX5_byteAt_24 ic_0 ?_
    exact g_reti hf hret dX5_byteAt_25
  · refine g_aload_n C 0 dX5_byteAt_10 rfl rfl ?_
    refine g_getC (n := 6) C in_X5_byteAt_X5 (k := 9) lk_X5_byteAt_1 rfl (Nat.le_of_ble_eq_true rfl) rfl (Nat.le_of_ble_eq_true rfl) rfl dX5_byteAt_11 ?_
    refine g_bipush C dX5_byteAt_14 bp_120 ?_
    refine g_iload_n C 1 dX5_byteAt_16 rfl rfl ?_
    refine g_imul C dX5_byteAt_17 ?_
    refine g_iload_n C 2 dX5_byteAt_18 rfl rfl ?_
    refine g_iadd C dX5_byteAt_19 ?_
    refine g_bald hf C rfl (Nat.le_of_ble_eq_true rfl) dX5_byteAt_20 (fun hf => ?_)
    refine g_goto (tgt := 25) C dX5_byteAt_21 (by decide) ?_
    exact g_reti hf hret dX5_byteAt_25
/-! X5_sign -/
theorem in_X5_sign_X5 : ∀ q ∈ u_ws RX5 TX5 30, q ∈ wsX5_sign := by decide +kernel
theorem lk_X5_sign_0 : Cond.fieldLink RX5 100 "EmptyHouseModel" "readAt" "I" ∈ wsX5_sign := by decide +kernel
theorem ddX5_sign : yX5_sign.cls = RX5 ∧ yX5_sign.cls ≠ "java/lang/invoke/MethodHandle" ∧ yX5_sign.cls ≠ "java/lang/invoke/VarHandle" ∧ (parseMethodDescriptor yX5_sign.desc).map (fun d => d.parameters.length) = some 2 := by decide +kernel
set_option maxHeartbeats 4000000 in
set_option maxRecDepth 100000 in
theorem mX5_sign (l0 : Launch) (D0 : va_G) (K0 : Nat → ClassId) (h : Nat → Nat) (σ : pS) (a1 : Int32) (a2 : Int32) {r : Int32} {u : pS} (hf : fX5_sign σ a1 a2 = some (r, u)) : Met l0 yX5_sign wsX5_sign ({ frames := 1, cells := 0, slots := 0, locals := 22 } : Room) (va_Pc [.ref (h 0), .int a1, .int a2] (pIn wM D0 K0 h σ)) (va_Qi (fun r' u' => r' = r ∧ u' = u) (pOut wM D0 K0 h) (pA wM h)) 0 0 (pA wM h) := by
  refine p_metZ (lv := [(0, .ref (h 0)), (1, .int a1), (2, .int a2)]) (by decide +kernel) rfl rfl (Nat.le_of_ble_eq_true rfl) rfl (fun X C hret => ?_)
  unfold fX5_sign at hf
  refine g_aload_n C 0 dX5_sign_0 rfl rfl ?_
  refine g_iload_n C 1 dX5_sign_1 rfl rfl ?_
  refine g_aload_n C 0 dX5_sign_2 rfl rfl ?_
  refine g_getI C in_X5_sign_X5 (k := 15) lk_X5_sign_0 rfl (Nat.le_of_ble_eq_true rfl) rfl (Nat.le_of_ble_eq_true rfl) rfl dX5_sign_3 ?_
  obtain ⟨r2, hc1, hf⟩ := g_bind hf
  refine g_callVi C (mX5_byteAt l0 D0 K0 h σ a1 (pI σ 0 15) hc1) gX5_sign_X5_byteAt rfl rfl rfl ddX5_byteAt ⟨(Nat.le_of_ble_eq_true rfl), (Nat.le_of_ble_eq_true rfl)⟩ rfl (Nat.le_of_ble_eq_true rfl) rfl rfl rfl (Nat.le_of_ble_eq_true rfl) dX5_sign_6 ?_
  refine g_iload_n C 2 dX5_sign_9 rfl rfl ?_
  refine g_join (P := fun j => ∀ (y4 : Int32), j y4 = some (r, u) → G wM h X 18 [(0, .ref (h 0))] [.int y4] σ) hf (fun y4 hf => ?_) (fun j3 hj3 hf => ?_)
  · refine g_istore_n C [1, 0] dX5_sign_18 rfl (Nat.le_of_ble_eq_true rfl) rfl ?_
    refine g_aload_n C 0 dX5_sign_19 rfl rfl ?_
    refine g_dup C dX5_sign_20 rfl ?_
    refine g_getI C in_X5_sign_X5 (k := 15) lk_X5_sign_0 rfl (Nat.le_of_ble_eq_true rfl) rfl (Nat.le_of_ble_eq_true rfl) rfl dX5_sign_21 ?_
    refine g_iload_n C 1 dX5_sign_24 rfl rfl ?_
    refine g_join (P := fun j => ∀ (y6 : Int32), j y6 = some (r, u) → G wM h X 33 [(3, .int y4)] [.int y6, .int (pI σ 0 15), .ref (h 0)] σ) hf (fun y6 hf => ?_) (fun j5 hj5 hf => ?_)
    · refine g_iadd C dX5_sign_33 ?_
      refine g_putI C in_X5_sign_X5 (k := 15) lk_X5_sign_0 rfl (Nat.le_of_ble_eq_true rfl) rfl (Nat.le_of_ble_eq_true rfl) tyX5 tyX5_ok nmX5 rfl rfl rfl rfl dX5_sign_34 ?_
      refine g_lets hf (fun σ7 hf => ?_)
      refine g_iload_n C 0 dX5_sign_37 rfl rfl ?_
      exact g_retzGW hf hret dX5_sign_38
    · refine g_if_eq (tgt := 32) hf C dX5_sign_25 (by decide) (fun hf => ?_) (fun hf => ?_)
      · refine g_iconst C dX5_sign_32 ic_0 ?_
        refine g_lv [1] rfl ?_
        exact hj5 (0 : Int32) hf
      · refine g_iconst C dX5_sign_28 ic_1 ?_
        refine g_goto (tgt := 33) C dX5_sign_29 (by decide) ?_
        refine g_lv [1] rfl ?_
        exact hj5 (1 : Int32) hf
  · refine g_icmp_ne (tgt := 17) hf C dX5_sign_10 (by decide) (fun hf => ?_) (fun hf => ?_)
    · refine g_iconst C dX5_sign_17 ic_0 ?_
      refine g_lv [0] rfl ?_
      exact hj3 (0 : Int32) hf
    · refine g_iconst C dX5_sign_13 ic_1 ?_
      refine g_goto (tgt := 18) C dX5_sign_14 (by decide) ?_
      refine g_lv [0] rfl ?_
      exact hj3 (1 : Int32) hf
/-! X5_number -/
theorem in_X5_number_X5 : ∀ q ∈ u_ws RX5 TX5 30, q ∈ wsX5_number := by decide +kernel
theorem lk_X5_number_0 : Cond.fieldLink RX5 100 "EmptyHouseModel" "readAt" "I" ∈ wsX5_number := by decide +kernel
theorem lk_X5_number_1 : Cond.fieldLink RX5 106 "EmptyHouseModel" "readNumber" "I" ∈ wsX5_number := by decide +kernel
theorem ddX5_number : yX5_number.cls = RX5 ∧ yX5_number.cls ≠ "java/lang/invoke/MethodHandle" ∧ yX5_number.cls ≠ "java/lang/invoke/VarHandle" ∧ (parseMethodDescriptor yX5_number.desc).map (fun d => d.parameters.length) = some 3 := by decide +kernel
set_option maxHeartbeats 4000000 in
set_option maxRecDepth 100000 in
theorem lX5_number_6_ok {h : Nat → Nat} {X : Cx} {l0 : Launch} {D0 : va_G} {K0 : Nat → ClassId} (p1 : Int32) (p2 : Int32) (p3 : Int32) {k67 : Int32 → Int32 → pS → Option (Int32 × pS)} {r : Int32} {u : pS} (C : Cok wM h X l0 ({ frames := 1, cells := 0, slots := 0, locals := 22 } : Room) D0 K0 cX5_number 6 RX5 wsX5_number) (hret : ∀ (pc : Nat) (lv' : List (Nat × Value)), vp_nar .boolean r = r → decode cX5_number pc = .ok (.ireturn, 1) → G wM h X pc lv' [.int r] u) (hk67 : ∀ (z4 : Int32) (z5 : Int32) (σ : pS), k67 z4 z5 σ = some (r, u) → G wM h X 67 [(0, .ref (h 0)), (2, .int p2), (3, .int p3), (4, .int z4), (5, .int z5)] [] σ) : ∀ (F : Nat) (v4 : Int32) (v5 : Int32) (σ : pS), lX5_number_6 p1 p2 p3 k67 F v4 v5 σ = some (r, u) → G wM h X 6 [(0, .ref (h 0)), (1, .int p1), (2, .int p2), (3, .int p3), (4, .int v4), (5, .int v5)] [] σ := by
  intro F
  induction F with
  | zero => intro v4 v5 σ hf; exact absurd hf (by simp [lX5_number_6])
  | succ F ih =>
    intro v4 v5 σ hf
    rw [lX5_number_6.eq_2] at hf
    refine g_iload C 4 dX5_number_6 rfl ?_
    refine g_iconst C dX5_number_8 ic_2 ?_
    refine g_icmp_ge (tgt := 67) hf C dX5_number_9 (by decide) (fun hf => ?_) (fun hf => ?_)
    · refine g_lv [0, 2, 3, 4, 5] rfl ?_
      exact hk67 v4 v5 σ hf
    · refine g_aload_n C 0 dX5_number_12 rfl rfl ?_
      refine g_iload_n C 1 dX5_number_13 rfl rfl ?_
      refine g_aload_n C 0 dX5_number_14 rfl rfl ?_
      refine g_getI C in_X5_number_X5 (k := 15) lk_X5_number_0 rfl (Nat.le_of_ble_eq_true rfl) rfl (Nat.le_of_ble_eq_true rfl) rfl dX5_number_15 ?_
      obtain ⟨r2, hc1, hf⟩ := g_bind hf
      refine g_callVi C (mX5_byteAt l0 D0 K0 h σ p1 (pI σ 0 15) hc1) gX5_number_X5_byteAt rfl rfl rfl ddX5_byteAt ⟨(Nat.le_of_ble_eq_true rfl), (Nat.le_of_ble_eq_true rfl)⟩ rfl (Nat.le_of_ble_eq_true rfl) rfl rfl rfl (Nat.le_of_ble_eq_true rfl) dX5_number_18 ?_
      refine g_bipush C dX5_number_21 bp_48 ?_
      refine g_bipush C dX5_number_23 bp_57 ?_
      obtain ⟨r4, hc3, hf⟩ := g_bind hf
      refine g_callSi C (mX5_in l0 D0 K0 h σ r2 (48 : Int32) (57 : Int32) hc3) gX5_number_X5_in rfl rfl rfl ddX5_in ⟨(Nat.le_of_ble_eq_true rfl), (Nat.le_of_ble_eq_true rfl)⟩ rfl rfl (Nat.le_of_ble_eq_true rfl) dX5_number_25 ?_
      refine g_if_eq (tgt := 67) hf C dX5_number_28 (by decide) (fun hf => ?_) (fun hf => ?_)
      · refine g_lv [0, 2, 3, 4, 5] rfl ?_
        exact hk67 v4 v5 σ hf
      · refine g_bipush C dX5_number_31 bp_10 ?_
        refine g_iload C 5 dX5_number_33 rfl ?_
        refine g_imul C dX5_number_35 ?_
        refine g_aload_n C 0 dX5_number_36 rfl rfl ?_
        refine g_iload_n C 1 dX5_number_37 rfl rfl ?_
        refine g_aload_n C 0 dX5_number_38 rfl rfl ?_
        refine g_getI C in_X5_number_X5 (k := 15) lk_X5_number_0 rfl (Nat.le_of_ble_eq_true rfl) rfl (Nat.le_of_ble_eq_true rfl) rfl dX5_number_39 ?_
        obtain ⟨r6, hc5, hf⟩ := g_bind hf
        refine g_callVi C (mX5_byteAt l0 D0 K0 h σ p1 (pI σ 0 15) hc5) gX5_number_X5_byteAt rfl rfl rfl ddX5_byteAt ⟨(Nat.le_of_ble_eq_true rfl), (Nat.le_of_ble_eq_true rfl)⟩ rfl (Nat.le_of_ble_eq_true rfl) rfl rfl rfl (Nat.le_of_ble_eq_true rfl) dX5_number_42 ?_
        refine g_iadd C dX5_number_45 ?_
        refine g_bipush C dX5_number_46 bp_48 ?_
        refine g_isub C dX5_number_48 ?_
        refine g_leti hf (fun x7 hf => ?_)
        refine g_istore C [1, 2, 3, 4, 5, 0] dX5_number_49 (Nat.le_of_ble_eq_true rfl) rfl ?_
        refine g_aload_n C 0 dX5_number_51 rfl rfl ?_
        refine g_dup C dX5_number_52 rfl ?_
        refine g_getI C in_X5_number_X5 (k := 15) lk_X5_number_0 rfl (Nat.le_of_ble_eq_true rfl) rfl (Nat.le_of_ble_eq_true rfl) rfl dX5_number_53 ?_
        refine g_iconst C dX5_number_56 ic_1 ?_
        refine g_iadd C dX5_number_57 ?_
        refine g_putI C in_X5_number_X5 (k := 15) lk_X5_number_0 rfl (Nat.le_of_ble_eq_true rfl) rfl (Nat.le_of_ble_eq_true rfl) tyX5 tyX5_ok nmX5 rfl rfl rfl rfl dX5_number_58 ?_
        refine g_lets hf (fun σ8 hf => ?_)
        refine g_iinc C 4 [1, 2, 3, 4, 0, 5] dX5_number_61 rfl ic_1 (Nat.le_of_ble_eq_true rfl) rfl ?_
        refine g_goto (tgt := 6) C dX5_number_64 (by decide) ?_
        exact ih (v4 + (1 : Int32)) x7 σ8 hf
set_option maxHeartbeats 4000000 in
set_option maxRecDepth 100000 in
theorem mX5_number (l0 : Launch) (D0 : va_G) (K0 : Nat → ClassId) (h : Nat → Nat) (σ : pS) (a1 : Int32) (a2 : Int32) (a3 : Int32) {r : Int32} {u : pS} (hf : fX5_number σ a1 a2 a3 = some (r, u)) : Met l0 yX5_number wsX5_number ({ frames := 1, cells := 0, slots := 0, locals := 22 } : Room) (va_Pc [.ref (h 0), .int a1, .int a2, .int a3] (pIn wM D0 K0 h σ)) (va_Qi (fun r' u' => r' = r ∧ u' = u) (pOut wM D0 K0 h) (pA wM h)) 0 0 (pA wM h) := by
  refine p_metZ (lv := [(0, .ref (h 0)), (1, .int a1), (2, .int a2), (3, .int a3)]) (by decide +kernel) rfl rfl (Nat.le_of_ble_eq_true rfl) rfl (fun X C hret => ?_)
  unfold fX5_number at hf
  refine g_iconst C dX5_number_0 ic_0 ?_
  refine g_istore C [1, 2, 3, 4, 0] dX5_number_1 (Nat.le_of_ble_eq_true rfl) rfl ?_
  refine g_iconst C dX5_number_3 ic_0 ?_
  refine g_istore C [1, 2, 3, 4, 5, 0] dX5_number_4 (Nat.le_of_ble_eq_true rfl) rfl ?_
  refine lX5_number_6_ok a1 a2 a3 C hret (fun y9 y10 σ11 hf => ?_) FU (0 : Int32) (0 : Int32) σ hf
  refine g_aload_n C 0 dX5_number_67 rfl rfl ?_
  refine g_iload C 4 dX5_number_68 rfl ?_
  refine g_putI C in_X5_number_X5 (k := 16) lk_X5_number_1 rfl (Nat.le_of_ble_eq_true rfl) rfl (Nat.le_of_ble_eq_true rfl) tyX5 tyX5_ok nmX5 rfl rfl rfl rfl dX5_number_70 ?_
  refine g_lets hf (fun σ12 hf => ?_)
  refine g_iload C 3 dX5_number_73 rfl ?_
  refine g_if_le (tgt := 92) hf C dX5_number_75 (by decide) (fun hf => ?_) (fun hf => ?_)
  · refine g_iconst C dX5_number_92 ic_0 ?_
    exact g_retzW hf (by decide) hret dX5_number_93
  · refine g_iload C 4 dX5_number_78 rfl ?_
    refine g_iload_n C 1 dX5_number_80 rfl rfl ?_
    refine g_iload_n C 2 dX5_number_81 rfl rfl ?_
    obtain ⟨r14, hc13, hf⟩ := g_bind hf
    refine g_callSi C (mX5_in l0 D0 K0 h σ12 y10 a2 a3 hc13) gX5_number_X5_in rfl rfl rfl ddX5_in ⟨(Nat.le_of_ble_eq_true rfl), (Nat.le_of_ble_eq_true rfl)⟩ rfl rfl (Nat.le_of_ble_eq_true rfl) dX5_number_82 ?_
    refine g_if_eq (tgt := 92) hf C dX5_number_85 (by decide) (fun hf => ?_) (fun hf => ?_)
    · refine g_iconst C dX5_number_92 ic_0 ?_
      exact g_retzW hf (by decide) hret dX5_number_93
    · refine g_iconst C dX5_number_88 ic_1 ?_
      refine g_goto (tgt := 93) C dX5_number_89 (by decide) ?_
      exact g_retzW hf (by decide) hret dX5_number_93
/-! X5_figure -/
theorem in_X5_figure_X5 : ∀ q ∈ u_ws RX5 TX5 30, q ∈ wsX5_figure := by decide +kernel
theorem lk_X5_figure_0 : Cond.fieldLink RX5 100 "EmptyHouseModel" "readAt" "I" ∈ wsX5_figure := by decide +kernel
theorem lk_X5_figure_1 : Cond.fieldLink RX5 106 "EmptyHouseModel" "readNumber" "I" ∈ wsX5_figure := by decide +kernel
theorem ddX5_figure : yX5_figure.cls = RX5 ∧ yX5_figure.cls ≠ "java/lang/invoke/MethodHandle" ∧ yX5_figure.cls ≠ "java/lang/invoke/VarHandle" ∧ (parseMethodDescriptor yX5_figure.desc).map (fun d => d.parameters.length) = some 1 := by decide +kernel
set_option maxHeartbeats 4000000 in
set_option maxRecDepth 100000 in
theorem mX5_figure (l0 : Launch) (D0 : va_G) (K0 : Nat → ClassId) (h : Nat → Nat) (σ : pS) (a1 : Int32) {r : Int32} {u : pS} (hf : fX5_figure σ a1 = some (r, u)) : Met l0 yX5_figure wsX5_figure ({ frames := 1, cells := 0, slots := 0, locals := 22 } : Room) (va_Pc [.ref (h 0), .int a1] (pIn wM D0 K0 h σ)) (va_Qi (fun r' u' => r' = r ∧ u' = u) (pOut wM D0 K0 h) (pA wM h)) 0 0 (pA wM h) := by
  refine p_metZ (lv := [(0, .ref (h 0)), (1, .int a1)]) (by decide +kernel) rfl rfl (Nat.le_of_ble_eq_true rfl) rfl (fun X C hret => ?_)
  unfold fX5_figure at hf
  refine g_aload_n C 0 dX5_figure_0 rfl rfl ?_
  refine g_aload_n C 0 dX5_figure_1 rfl rfl ?_
  refine g_iload_n C 1 dX5_figure_2 rfl rfl ?_
  refine g_aload_n C 0 dX5_figure_3 rfl rfl ?_
  refine g_getI C in_X5_figure_X5 (k := 15) lk_X5_figure_0 rfl (Nat.le_of_ble_eq_true rfl) rfl (Nat.le_of_ble_eq_true rfl) rfl dX5_figure_4 ?_
  obtain ⟨r2, hc1, hf⟩ := g_bind hf
  refine g_callVi C (mX5_byteAt l0 D0 K0 h σ a1 (pI σ 0 15) hc1) gX5_figure_X5_byteAt rfl rfl rfl ddX5_byteAt ⟨(Nat.le_of_ble_eq_true rfl), (Nat.le_of_ble_eq_true rfl)⟩ rfl (Nat.le_of_ble_eq_true rfl) rfl rfl rfl (Nat.le_of_ble_eq_true rfl) dX5_figure_7 ?_
  refine g_bipush C dX5_figure_10 bp_48 ?_
  refine g_isub C dX5_figure_12 ?_
  refine g_putI C in_X5_figure_X5 (k := 16) lk_X5_figure_1 rfl (Nat.le_of_ble_eq_true rfl) rfl (Nat.le_of_ble_eq_true rfl) tyX5 tyX5_ok nmX5 rfl rfl rfl rfl dX5_figure_13 ?_
  refine g_lets hf (fun σ3 hf => ?_)
  refine g_aload_n C 0 dX5_figure_16 rfl rfl ?_
  refine g_getI C in_X5_figure_X5 (k := 16) lk_X5_figure_1 rfl (Nat.le_of_ble_eq_true rfl) rfl (Nat.le_of_ble_eq_true rfl) rfl dX5_figure_17 ?_
  refine g_iconst C dX5_figure_20 ic_0 ?_
  refine g_bipush C dX5_figure_21 bp_9 ?_
  obtain ⟨r5, hc4, hf⟩ := g_bind hf
  refine g_callSi C (mX5_in l0 D0 K0 h σ3 (pI σ3 0 16) (0 : Int32) (9 : Int32) hc4) gX5_figure_X5_in rfl rfl rfl ddX5_in ⟨(Nat.le_of_ble_eq_true rfl), (Nat.le_of_ble_eq_true rfl)⟩ rfl rfl (Nat.le_of_ble_eq_true rfl) dX5_figure_23 ?_
  refine g_istore_n C [1, 0] dX5_figure_26 rfl (Nat.le_of_ble_eq_true rfl) rfl ?_
  refine g_aload_n C 0 dX5_figure_27 rfl rfl ?_
  refine g_dup C dX5_figure_28 rfl ?_
  refine g_getI C in_X5_figure_X5 (k := 15) lk_X5_figure_0 rfl (Nat.le_of_ble_eq_true rfl) rfl (Nat.le_of_ble_eq_true rfl) rfl dX5_figure_29 ?_
  refine g_iload_n C 1 dX5_figure_32 rfl rfl ?_
  refine g_join (P := fun j => ∀ (y7 : Int32), j y7 = some (r, u) → G wM h X 41 [(2, .int r5)] [.int y7, .int (pI σ3 0 15), .ref (h 0)] σ3) hf (fun y7 hf => ?_) (fun j6 hj6 hf => ?_)
  · refine g_iadd C dX5_figure_41 ?_
    refine g_putI C in_X5_figure_X5 (k := 15) lk_X5_figure_0 rfl (Nat.le_of_ble_eq_true rfl) rfl (Nat.le_of_ble_eq_true rfl) tyX5 tyX5_ok nmX5 rfl rfl rfl rfl dX5_figure_42 ?_
    refine g_lets hf (fun σ8 hf => ?_)
    refine g_iload_n C 0 dX5_figure_45 rfl rfl ?_
    exact g_retzGW hf hret dX5_figure_46
  · refine g_if_eq (tgt := 40) hf C dX5_figure_33 (by decide) (fun hf => ?_) (fun hf => ?_)
    · refine g_iconst C dX5_figure_40 ic_0 ?_
      refine g_lv [1] rfl ?_
      exact hj6 (0 : Int32) hf
    · refine g_iconst C dX5_figure_36 ic_1 ?_
      refine g_goto (tgt := 41) C dX5_figure_37 (by decide) ?_
      refine g_lv [1] rfl ?_
      exact hj6 (1 : Int32) hf
/-! X5_letter -/
theorem in_X5_letter_X5 : ∀ q ∈ u_ws RX5 TX5 30, q ∈ wsX5_letter := by decide +kernel
theorem lk_X5_letter_0 : Cond.fieldLink RX5 100 "EmptyHouseModel" "readAt" "I" ∈ wsX5_letter := by decide +kernel
theorem lk_X5_letter_1 : Cond.fieldLink RX5 106 "EmptyHouseModel" "readNumber" "I" ∈ wsX5_letter := by decide +kernel
theorem lk_X5_letter_2 : Cond.fieldLink RX5 109 "EmptyHouseModel" "readPeople" "I" ∈ wsX5_letter := by decide +kernel
theorem ddX5_letter : yX5_letter.cls = RX5 ∧ yX5_letter.cls ≠ "java/lang/invoke/MethodHandle" ∧ yX5_letter.cls ≠ "java/lang/invoke/VarHandle" ∧ (parseMethodDescriptor yX5_letter.desc).map (fun d => d.parameters.length) = some 2 := by decide +kernel
set_option maxHeartbeats 4000000 in
set_option maxRecDepth 100000 in
theorem mX5_letter (l0 : Launch) (D0 : va_G) (K0 : Nat → ClassId) (h : Nat → Nat) (σ : pS) (a1 : Int32) (a2 : Int32) {r : Int32} {u : pS} (hf : fX5_letter σ a1 a2 = some (r, u)) : Met l0 yX5_letter wsX5_letter ({ frames := 1, cells := 0, slots := 0, locals := 22 } : Room) (va_Pc [.ref (h 0), .int a1, .int a2] (pIn wM D0 K0 h σ)) (va_Qi (fun r' u' => r' = r ∧ u' = u) (pOut wM D0 K0 h) (pA wM h)) 0 0 (pA wM h) := by
  refine p_metZ (lv := [(0, .ref (h 0)), (1, .int a1), (2, .int a2)]) (by decide +kernel) rfl rfl (Nat.le_of_ble_eq_true rfl) rfl (fun X C hret => ?_)
  unfold fX5_letter at hf
  refine g_aload_n C 0 dX5_letter_0 rfl rfl ?_
  refine g_aload_n C 0 dX5_letter_1 rfl rfl ?_
  refine g_iload_n C 1 dX5_letter_2 rfl rfl ?_
  refine g_aload_n C 0 dX5_letter_3 rfl rfl ?_
  refine g_getI C in_X5_letter_X5 (k := 15) lk_X5_letter_0 rfl (Nat.le_of_ble_eq_true rfl) rfl (Nat.le_of_ble_eq_true rfl) rfl dX5_letter_4 ?_
  obtain ⟨r2, hc1, hf⟩ := g_bind hf
  refine g_callVi C (mX5_byteAt l0 D0 K0 h σ a1 (pI σ 0 15) hc1) gX5_letter_X5_byteAt rfl rfl rfl ddX5_byteAt ⟨(Nat.le_of_ble_eq_true rfl), (Nat.le_of_ble_eq_true rfl)⟩ rfl (Nat.le_of_ble_eq_true rfl) rfl rfl rfl (Nat.le_of_ble_eq_true rfl) dX5_letter_7 ?_
  refine g_bipush C dX5_letter_10 bp_65 ?_
  refine g_isub C dX5_letter_12 ?_
  refine g_putI C in_X5_letter_X5 (k := 16) lk_X5_letter_1 rfl (Nat.le_of_ble_eq_true rfl) rfl (Nat.le_of_ble_eq_true rfl) tyX5 tyX5_ok nmX5 rfl rfl rfl rfl dX5_letter_13 ?_
  refine g_lets hf (fun σ3 hf => ?_)
  refine g_aload_n C 0 dX5_letter_16 rfl rfl ?_
  refine g_getI C in_X5_letter_X5 (k := 16) lk_X5_letter_1 rfl (Nat.le_of_ble_eq_true rfl) rfl (Nat.le_of_ble_eq_true rfl) rfl dX5_letter_17 ?_
  refine g_iconst C dX5_letter_20 ic_0 ?_
  refine g_aload_n C 0 dX5_letter_21 rfl rfl ?_
  refine g_getI C in_X5_letter_X5 (k := 17) lk_X5_letter_2 rfl (Nat.le_of_ble_eq_true rfl) rfl (Nat.le_of_ble_eq_true rfl) rfl dX5_letter_22 ?_
  refine g_iconst C dX5_letter_25 ic_1 ?_
  refine g_isub C dX5_letter_26 ?_
  obtain ⟨r5, hc4, hf⟩ := g_bind hf
  refine g_callSi C (mX5_in l0 D0 K0 h σ3 (pI σ3 0 16) (0 : Int32) ((pI σ3 0 17) - (1 : Int32)) hc4) gX5_letter_X5_in rfl rfl rfl ddX5_in ⟨(Nat.le_of_ble_eq_true rfl), (Nat.le_of_ble_eq_true rfl)⟩ rfl rfl (Nat.le_of_ble_eq_true rfl) dX5_letter_27 ?_
  refine g_join (P := fun j => ∀ (y7 : Int32), j y7 = some (r, u) → G wM h X 46 [(0, .ref (h 0))] [.int y7] σ3) hf (fun y7 hf => ?_) (fun j6 hj6 hf => ?_)
  · refine g_istore_n C [1, 0] dX5_letter_46 rfl (Nat.le_of_ble_eq_true rfl) rfl ?_
    refine g_aload_n C 0 dX5_letter_47 rfl rfl ?_
    refine g_dup C dX5_letter_48 rfl ?_
    refine g_getI C in_X5_letter_X5 (k := 15) lk_X5_letter_0 rfl (Nat.le_of_ble_eq_true rfl) rfl (Nat.le_of_ble_eq_true rfl) rfl dX5_letter_49 ?_
    refine g_iload_n C 1 dX5_letter_52 rfl rfl ?_
    refine g_join (P := fun j => ∀ (y9 : Int32), j y9 = some (r, u) → G wM h X 61 [(3, .int y7)] [.int y9, .int (pI σ3 0 15), .ref (h 0)] σ3) hf (fun y9 hf => ?_) (fun j8 hj8 hf => ?_)
    · refine g_iadd C dX5_letter_61 ?_
      refine g_putI C in_X5_letter_X5 (k := 15) lk_X5_letter_0 rfl (Nat.le_of_ble_eq_true rfl) rfl (Nat.le_of_ble_eq_true rfl) tyX5 tyX5_ok nmX5 rfl rfl rfl rfl dX5_letter_62 ?_
      refine g_lets hf (fun σ10 hf => ?_)
      refine g_iload_n C 0 dX5_letter_65 rfl rfl ?_
      exact g_retzGW hf hret dX5_letter_66
    · refine g_if_eq (tgt := 60) hf C dX5_letter_53 (by decide) (fun hf => ?_) (fun hf => ?_)
      · refine g_iconst C dX5_letter_60 ic_0 ?_
        refine g_lv [1] rfl ?_
        exact hj8 (0 : Int32) hf
      · refine g_iconst C dX5_letter_56 ic_1 ?_
        refine g_goto (tgt := 61) C dX5_letter_57 (by decide) ?_
        refine g_lv [1] rfl ?_
        exact hj8 (1 : Int32) hf
  · refine g_if_eq (tgt := 45) hf C dX5_letter_30 (by decide) (fun hf => ?_) (fun hf => ?_)
    · refine g_iconst C dX5_letter_45 ic_0 ?_
      refine g_lv [0] rfl ?_
      exact hj6 (0 : Int32) hf
    · refine g_aload_n C 0 dX5_letter_33 rfl rfl ?_
      refine g_getI C in_X5_letter_X5 (k := 16) lk_X5_letter_1 rfl (Nat.le_of_ble_eq_true rfl) rfl (Nat.le_of_ble_eq_true rfl) rfl dX5_letter_34 ?_
      refine g_iload_n C 2 dX5_letter_37 rfl rfl ?_
      refine g_icmp_eq (tgt := 45) hf C dX5_letter_38 (by decide) (fun hf => ?_) (fun hf => ?_)
      · refine g_iconst C dX5_letter_45 ic_0 ?_
        refine g_lv [0] rfl ?_
        exact hj6 (0 : Int32) hf
      · refine g_iconst C dX5_letter_41 ic_1 ?_
        refine g_goto (tgt := 46) C dX5_letter_42 (by decide) ?_
        refine g_lv [0] rfl ?_
        exact hj6 (1 : Int32) hf
/-! X5_kindOf -/
theorem ddX5_kindOf : yX5_kindOf.cls ≠ "java/lang/invoke/MethodHandle" ∧ yX5_kindOf.cls ≠ "java/lang/invoke/VarHandle" ∧ (parseMethodDescriptor yX5_kindOf.desc).map (fun d => d.parameters.length) = some 1 := by decide +kernel
set_option maxHeartbeats 4000000 in
set_option maxRecDepth 100000 in
theorem mX5_kindOf (l0 : Launch) (D0 : va_G) (K0 : Nat → ClassId) (h : Nat → Nat) (σ : pS) (a1 : Int32) {r : Int32} (hf : fX5_kindOf a1 = some r) : Met l0 yX5_kindOf wsX5_kindOf ({ frames := 0, cells := 0, slots := 0, locals := 0 } : Room) (va_Pc [.int a1] (pIn wM D0 K0 h σ)) (va_Qi (fun r' u' => r' = r ∧ u' = σ) (pOut wM D0 K0 h) (pA wM h)) 0 0 (pA wM h) := by
  refine p_metI (lv := [(0, .int a1)]) (by decide +kernel) rfl rfl (Nat.le_of_ble_eq_true rfl) rfl (fun X C hret => ?_)
  unfold fX5_kindOf at hf
  refine g_iload_n C 0 dX5_kindOf_0 rfl rfl ?_
  refine g_swc hf (fun hx1 hf => ?_) (fun hn2 hf => ?_)
  · refine g_swin (tgt := 88) hx1 C dX5_kindOf_1 (by decide) (by decide) rfl (by decide) ?_
    refine g_iconst C dX5_kindOf_88 ic_0 ?_
    exact g_reti hf hret dX5_kindOf_89
  · refine g_swc hf (fun hx3 hf => ?_) (fun hn4 hf => ?_)
    · refine g_swin (tgt := 100) hx3 C dX5_kindOf_1 (by decide) (by decide) rfl (by decide) ?_
      refine g_bipush C dX5_kindOf_100 bp_m9 ?_
      exact g_reti hf hret dX5_kindOf_102
    · refine g_swc hf (fun hx5 hf => ?_) (fun hn6 hf => ?_)
      · refine g_swin (tgt := 100) hx5 C dX5_kindOf_1 (by decide) (by decide) rfl (by decide) ?_
        refine g_bipush C dX5_kindOf_100 bp_m9 ?_
        exact g_reti hf hret dX5_kindOf_102
      · refine g_swc hf (fun hx7 hf => ?_) (fun hn8 hf => ?_)
        · refine g_swin (tgt := 90) hx7 C dX5_kindOf_1 (by decide) (by decide) rfl (by decide) ?_
          refine g_iconst C dX5_kindOf_90 ic_1 ?_
          exact g_reti hf hret dX5_kindOf_91
        · refine g_swc hf (fun hx9 hf => ?_) (fun hn10 hf => ?_)
          · refine g_swin (tgt := 96) hx9 C dX5_kindOf_1 (by decide) (by decide) rfl (by decide) ?_
            refine g_iconst C dX5_kindOf_96 ic_4 ?_
            exact g_reti hf hret dX5_kindOf_97
          · refine g_swc hf (fun hx11 hf => ?_) (fun hn12 hf => ?_)
            · refine g_swin (tgt := 94) hx11 C dX5_kindOf_1 (by decide) (by decide) rfl (by decide) ?_
              refine g_iconst C dX5_kindOf_94 ic_3 ?_
              exact g_reti hf hret dX5_kindOf_95
            · refine g_swc hf (fun hx13 hf => ?_) (fun hn14 hf => ?_)
              · refine g_swin (tgt := 100) hx13 C dX5_kindOf_1 (by decide) (by decide) rfl (by decide) ?_
                refine g_bipush C dX5_kindOf_100 bp_m9 ?_
                exact g_reti hf hret dX5_kindOf_102
              · refine g_swc hf (fun hx15 hf => ?_) (fun hn16 hf => ?_)
                · refine g_swin (tgt := 100) hx15 C dX5_kindOf_1 (by decide) (by decide) rfl (by decide) ?_
                  refine g_bipush C dX5_kindOf_100 bp_m9 ?_
                  exact g_reti hf hret dX5_kindOf_102
                · refine g_swc hf (fun hx17 hf => ?_) (fun hn18 hf => ?_)
                  · refine g_swin (tgt := 100) hx17 C dX5_kindOf_1 (by decide) (by decide) rfl (by decide) ?_
                    refine g_bipush C dX5_kindOf_100 bp_m9 ?_
                    exact g_reti hf hret dX5_kindOf_102
                  · refine g_swc hf (fun hx19 hf => ?_) (fun hn20 hf => ?_)
                    · refine g_swin (tgt := 100) hx19 C dX5_kindOf_1 (by decide) (by decide) rfl (by decide) ?_
                      refine g_bipush C dX5_kindOf_100 bp_m9 ?_
                      exact g_reti hf hret dX5_kindOf_102
                    · refine g_swc hf (fun hx21 hf => ?_) (fun hn22 hf => ?_)
                      · refine g_swin (tgt := 100) hx21 C dX5_kindOf_1 (by decide) (by decide) rfl (by decide) ?_
                        refine g_bipush C dX5_kindOf_100 bp_m9 ?_
                        exact g_reti hf hret dX5_kindOf_102
                      · refine g_swc hf (fun hx23 hf => ?_) (fun hn24 hf => ?_)
                        · refine g_swin (tgt := 92) hx23 C dX5_kindOf_1 (by decide) (by decide) rfl (by decide) ?_
                          refine g_iconst C dX5_kindOf_92 ic_2 ?_
                          exact g_reti hf hret dX5_kindOf_93
                        · refine g_swc hf (fun hx25 hf => ?_) (fun hn26 hf => ?_)
                          · refine g_swin (tgt := 100) hx25 C dX5_kindOf_1 (by decide) (by decide) rfl (by decide) ?_
                            refine g_bipush C dX5_kindOf_100 bp_m9 ?_
                            exact g_reti hf hret dX5_kindOf_102
                          · refine g_swc hf (fun hx27 hf => ?_) (fun hn28 hf => ?_)
                            · refine g_swin (tgt := 100) hx27 C dX5_kindOf_1 (by decide) (by decide) rfl (by decide) ?_
                              refine g_bipush C dX5_kindOf_100 bp_m9 ?_
                              exact g_reti hf hret dX5_kindOf_102
                            · refine g_swc hf (fun hx29 hf => ?_) (fun hn30 hf => ?_)
                              · refine g_swin (tgt := 100) hx29 C dX5_kindOf_1 (by decide) (by decide) rfl (by decide) ?_
                                refine g_bipush C dX5_kindOf_100 bp_m9 ?_
                                exact g_reti hf hret dX5_kindOf_102
                              · refine g_swc hf (fun hx31 hf => ?_) (fun hn32 hf => ?_)
                                · refine g_swin (tgt := 100) hx31 C dX5_kindOf_1 (by decide) (by decide) rfl (by decide) ?_
                                  refine g_bipush C dX5_kindOf_100 bp_m9 ?_
                                  exact g_reti hf hret dX5_kindOf_102
                                · refine g_swc hf (fun hx33 hf => ?_) (fun hn34 hf => ?_)
                                  · refine g_swin (tgt := 100) hx33 C dX5_kindOf_1 (by decide) (by decide) rfl (by decide) ?_
                                    refine g_bipush C dX5_kindOf_100 bp_m9 ?_
                                    exact g_reti hf hret dX5_kindOf_102
                                  · refine g_swc hf (fun hx35 hf => ?_) (fun hn36 hf => ?_)
                                    · refine g_swin (tgt := 98) hx35 C dX5_kindOf_1 (by decide) (by decide) rfl (by decide) ?_
                                      refine g_iconst C dX5_kindOf_98 ic_5 ?_
                                      exact g_reti hf hret dX5_kindOf_99
                                    · refine g_swout (tgt := 100) C dX5_kindOf_1 (by have := lv_neT (a := 104) hn2 (by decide); have := lv_neT (a := 105) hn4 (by decide); have := lv_neT (a := 106) hn6 (by decide); have := lv_neT (a := 107) hn8 (by decide); have := lv_neT (a := 108) hn10 (by decide); have := lv_neT (a := 109) hn12 (by decide); have := lv_neT (a := 110) hn14 (by decide); have := lv_neT (a := 111) hn16 (by decide); have := lv_neT (a := 112) hn18 (by decide); have := lv_neT (a := 113) hn20 (by decide); have := lv_neT (a := 114) hn22 (by decide); have := lv_neT (a := 115) hn24 (by decide); have := lv_neT (a := 116) hn26 (by decide); have := lv_neT (a := 117) hn28 (by decide); have := lv_neT (a := 118) hn30 (by decide); have := lv_neT (a := 119) hn32 (by decide); have := lv_neT (a := 120) hn34 (by decide); have := lv_neT (a := 121) hn36 (by decide); omega) (by decide) ?_
                                      refine g_bipush C dX5_kindOf_100 bp_m9 ?_
                                      exact g_reti hf hret dX5_kindOf_102
/-! X5_readsOne -/
theorem in_X5_readsOne_X5 : ∀ q ∈ u_ws RX5 TX5 30, q ∈ wsX5_readsOne := by decide +kernel
theorem lk_X5_readsOne_0 : Cond.fieldLink RX5 109 "EmptyHouseModel" "readPeople" "I" ∈ wsX5_readsOne := by decide +kernel
theorem lk_X5_readsOne_1 : Cond.fieldLink RX5 100 "EmptyHouseModel" "readAt" "I" ∈ wsX5_readsOne := by decide +kernel
theorem lk_X5_readsOne_2 : Cond.fieldLink RX5 106 "EmptyHouseModel" "readNumber" "I" ∈ wsX5_readsOne := by decide +kernel
theorem lk_X5_readsOne_3 : Cond.fieldLink RX5 35 "EmptyHouseModel" "readOne" "[I" ∈ wsX5_readsOne := by decide +kernel
theorem ddX5_readsOne : yX5_readsOne.cls = RX5 ∧ yX5_readsOne.cls ≠ "java/lang/invoke/MethodHandle" ∧ yX5_readsOne.cls ≠ "java/lang/invoke/VarHandle" ∧ (parseMethodDescriptor yX5_readsOne.desc).map (fun d => d.parameters.length) = some 1 := by decide +kernel
set_option maxHeartbeats 4000000 in
set_option maxRecDepth 100000 in
theorem lX5_readsOne_141_ok {h : Nat → Nat} {X : Cx} {l0 : Launch} {D0 : va_G} {K0 : Nat → ClassId} (σ : pS) (p1 : Int32) (p2 : Int32) (p3 : Int32) {k165 : Int32 → Option (Int32 × pS)} {r : Int32} {u : pS} (C : Cok wM h X l0 ({ frames := 2, cells := 0, slots := 0, locals := 47 } : Room) D0 K0 cX5_readsOne 7 RX5 wsX5_readsOne) (hret : ∀ (pc : Nat) (lv' : List (Nat × Value)), vp_nar .boolean r = r → decode cX5_readsOne pc = .ok (.ireturn, 1) → G wM h X pc lv' [.int r] u) (hk165 : ∀ (z4 : Int32), k165 z4 = some (r, u) → G wM h X 165 [(0, .ref (h 0)), (1, .int p1), (2, .int p2), (3, .int p3), (4, .int z4)] [] σ) : ∀ (F : Nat) (v4 : Int32) (v6 : Int32), lX5_readsOne_141 σ p1 p2 p3 k165 F v4 v6 = some (r, u) → G wM h X 141 [(0, .ref (h 0)), (1, .int p1), (2, .int p2), (3, .int p3), (4, .int v4), (6, .int v6)] [] σ := by
  intro F
  induction F with
  | zero => intro v4 v6 hf; exact absurd hf (by simp [lX5_readsOne_141])
  | succ F ih =>
    intro v4 v6 hf
    rw [lX5_readsOne_141.eq_2] at hf
    refine g_iload C 5 dX5_readsOne_141 rfl ?_
    refine g_aload_n C 0 dX5_readsOne_143 rfl rfl ?_
    refine g_getI C in_X5_readsOne_X5 (k := 16) lk_X5_readsOne_2 rfl (Nat.le_of_ble_eq_true rfl) rfl (Nat.le_of_ble_eq_true rfl) rfl dX5_readsOne_144 ?_
    refine g_icmp_gt (tgt := 165) hf C dX5_readsOne_147 (by decide) (fun hf => ?_) (fun hf => ?_)
    · refine g_lv [0, 1, 2, 3, 4] rfl ?_
      exact hk165 v4 hf
    · refine g_iload C 4 dX5_readsOne_150 rfl ?_
      refine g_iconst C dX5_readsOne_152 ic_1 ?_
      refine g_iload C 5 dX5_readsOne_153 rfl ?_
      refine g_ishl C dX5_readsOne_155 ?_
      refine g_ior C dX5_readsOne_156 ?_
      refine g_leti hf (fun x23 hf => ?_)
      refine g_istore C [1, 2, 3, 4, 0, 5] dX5_readsOne_157 (Nat.le_of_ble_eq_true rfl) rfl ?_
      refine g_iinc C 5 [1, 2, 3, 4, 5, 0] dX5_readsOne_159 rfl ic_1 (Nat.le_of_ble_eq_true rfl) rfl ?_
      refine g_goto (tgt := 141) C dX5_readsOne_162 (by decide) ?_
      exact ih x23 (v6 + (1 : Int32)) hf
set_option maxHeartbeats 4000000 in
set_option maxRecDepth 100000 in
theorem lX5_readsOne_84_ok {h : Nat → Nat} {X : Cx} {l0 : Launch} {D0 : va_G} {K0 : Nat → ClassId} (p1 : Int32) (p2 : Int32) (p3 : Int32) {k168 : Int32 → pS → Option (Int32 × pS)} {r : Int32} {u : pS} (C : Cok wM h X l0 ({ frames := 2, cells := 0, slots := 0, locals := 47 } : Room) D0 K0 cX5_readsOne 7 RX5 wsX5_readsOne) (hret : ∀ (pc : Nat) (lv' : List (Nat × Value)), vp_nar .boolean r = r → decode cX5_readsOne pc = .ok (.ireturn, 1) → G wM h X pc lv' [.int r] u) (hk168 : ∀ (z4 : Int32) (σ : pS), k168 z4 σ = some (r, u) → G wM h X 168 [(0, .ref (h 0)), (2, .int p2), (3, .int p3), (4, .int z4)] [] σ) : ∀ (F : Nat) (v4 : Int32) (σ : pS), lX5_readsOne_84 p1 p2 p3 k168 F v4 σ = some (r, u) → G wM h X 84 [(0, .ref (h 0)), (1, .int p1), (2, .int p2), (3, .int p3), (4, .int v4)] [] σ := by
  intro F
  induction F with
  | zero => intro v4 σ hf; exact absurd hf (by simp [lX5_readsOne_84])
  | succ F ih =>
    intro v4 σ hf
    rw [lX5_readsOne_84.eq_2] at hf
    refine g_aload_n C 0 dX5_readsOne_84 rfl rfl ?_
    refine g_iload_n C 1 dX5_readsOne_85 rfl rfl ?_
    refine g_bipush C dX5_readsOne_86 bp_97 ?_
    obtain ⟨r11, σ12, hc10, hf⟩ := g_pbind hf
    refine g_callVi C (mX5_sign l0 D0 K0 h σ p1 (97 : Int32) hc10) gX5_readsOne_X5_sign rfl rfl rfl ddX5_sign ⟨(Nat.le_of_ble_eq_true rfl), (Nat.le_of_ble_eq_true rfl)⟩ rfl (Nat.le_of_ble_eq_true rfl) rfl rfl rfl (Nat.le_of_ble_eq_true rfl) dX5_readsOne_88 ?_
    refine g_if_eq (tgt := 168) hf C dX5_readsOne_91 (by decide) (fun hf => ?_) (fun hf => ?_)
    · refine g_lv [0, 2, 3, 4] rfl ?_
      exact hk168 v4 σ12 hf
    · refine g_aload_n C 0 dX5_readsOne_94 rfl rfl ?_
      refine g_iload_n C 1 dX5_readsOne_95 rfl rfl ?_
      refine g_iconst C dX5_readsOne_96 ic_0 ?_
      refine g_bipush C dX5_readsOne_97 bp_11 ?_
      obtain ⟨r14, σ15, hc13, hf⟩ := g_pbind hf
      refine g_callVi C (mX5_number l0 D0 K0 h σ12 p1 (0 : Int32) (11 : Int32) hc13) gX5_readsOne_X5_number rfl rfl rfl ddX5_number ⟨(Nat.le_of_ble_eq_true rfl), (Nat.le_of_ble_eq_true rfl)⟩ rfl (Nat.le_of_ble_eq_true rfl) rfl rfl rfl (Nat.le_of_ble_eq_true rfl) dX5_readsOne_99 ?_
      refine g_if_ne (tgt := 107) hf C dX5_readsOne_102 (by decide) (fun hf => ?_) (fun hf => ?_)
      · refine g_aload_n C 0 dX5_readsOne_107 rfl rfl ?_
        refine g_getI C in_X5_readsOne_X5 (k := 16) lk_X5_readsOne_2 rfl (Nat.le_of_ble_eq_true rfl) rfl (Nat.le_of_ble_eq_true rfl) rfl dX5_readsOne_108 ?_
        refine g_leti hf (fun x16 hf => ?_)
        refine g_istore C [1, 2, 3, 4, 5, 0] dX5_readsOne_111 (Nat.le_of_ble_eq_true rfl) rfl ?_
        refine g_aload_n C 0 dX5_readsOne_113 rfl rfl ?_
        refine g_iload_n C 1 dX5_readsOne_114 rfl rfl ?_
        refine g_bipush C dX5_readsOne_115 bp_45 ?_
        obtain ⟨r18, σ19, hc17, hf⟩ := g_pbind hf
        refine g_callVi C (mX5_sign l0 D0 K0 h σ15 p1 (45 : Int32) hc17) gX5_readsOne_X5_sign rfl rfl rfl ddX5_sign ⟨(Nat.le_of_ble_eq_true rfl), (Nat.le_of_ble_eq_true rfl)⟩ rfl (Nat.le_of_ble_eq_true rfl) rfl rfl rfl (Nat.le_of_ble_eq_true rfl) dX5_readsOne_117 ?_
        refine g_if_eq (tgt := 135) hf C dX5_readsOne_120 (by decide) (fun hf => ?_) (fun hf => ?_)
        · refine g_iconst C dX5_readsOne_135 ic_0 ?_
          exact g_retzW hf (by decide) hret dX5_readsOne_136
        · refine g_aload_n C 0 dX5_readsOne_123 rfl rfl ?_
          refine g_iload_n C 1 dX5_readsOne_124 rfl rfl ?_
          refine g_iload C 5 dX5_readsOne_125 rfl ?_
          refine g_bipush C dX5_readsOne_127 bp_11 ?_
          obtain ⟨r21, σ22, hc20, hf⟩ := g_pbind hf
          refine g_callVi C (mX5_number l0 D0 K0 h σ19 p1 x16 (11 : Int32) hc20) gX5_readsOne_X5_number rfl rfl rfl ddX5_number ⟨(Nat.le_of_ble_eq_true rfl), (Nat.le_of_ble_eq_true rfl)⟩ rfl (Nat.le_of_ble_eq_true rfl) rfl rfl rfl (Nat.le_of_ble_eq_true rfl) dX5_readsOne_129 ?_
          refine g_if_ne (tgt := 137) hf C dX5_readsOne_132 (by decide) (fun hf => ?_) (fun hf => ?_)
          · refine g_iload C 5 dX5_readsOne_137 rfl ?_
            refine g_istore C [1, 2, 3, 4, 5, 0] dX5_readsOne_139 (Nat.le_of_ble_eq_true rfl) rfl ?_
            refine lX5_readsOne_141_ok σ22 p1 p2 p3 C hret (fun y24 hf => ?_) FU v4 x16 hf
            refine g_goto (tgt := 84) C dX5_readsOne_165 (by decide) ?_
            exact ih y24 σ22 hf
          · refine g_iconst C dX5_readsOne_135 ic_0 ?_
            exact g_retzW hf (by decide) hret dX5_readsOne_136
      · refine g_iconst C dX5_readsOne_105 ic_0 ?_
        exact g_retzW hf (by decide) hret dX5_readsOne_106
set_option maxHeartbeats 4000000 in
set_option maxRecDepth 100000 in
theorem mX5_readsOne (l0 : Launch) (D0 : va_G) (K0 : Nat → ClassId) (h : Nat → Nat) (σ : pS) (a1 : Int32) {r : Int32} {u : pS} (hf : fX5_readsOne σ a1 = some (r, u)) : Met l0 yX5_readsOne wsX5_readsOne ({ frames := 2, cells := 0, slots := 0, locals := 47 } : Room) (va_Pc [.ref (h 0), .int a1] (pIn wM D0 K0 h σ)) (va_Qi (fun r' u' => r' = r ∧ u' = u) (pOut wM D0 K0 h) (pA wM h)) 0 0 (pA wM h) := by
  refine p_metZ (lv := [(0, .ref (h 0)), (1, .int a1)]) (by decide +kernel) rfl rfl (Nat.le_of_ble_eq_true rfl) rfl (fun X C hret => ?_)
  unfold fX5_readsOne at hf
  refine g_aload_n C 0 dX5_readsOne_0 rfl rfl ?_
  refine g_getI C in_X5_readsOne_X5 (k := 17) lk_X5_readsOne_0 rfl (Nat.le_of_ble_eq_true rfl) rfl (Nat.le_of_ble_eq_true rfl) rfl dX5_readsOne_1 ?_
  refine g_bipush C dX5_readsOne_4 bp_6 ?_
  refine g_icmp_ne (tgt := 11) hf C dX5_readsOne_6 (by decide) (fun hf => ?_) (fun hf => ?_)
  · refine g_aload_n C 0 dX5_readsOne_11 rfl rfl ?_
    refine g_dup C dX5_readsOne_12 rfl ?_
    refine g_getI C in_X5_readsOne_X5 (k := 15) lk_X5_readsOne_1 rfl (Nat.le_of_ble_eq_true rfl) rfl (Nat.le_of_ble_eq_true rfl) rfl dX5_readsOne_13 ?_
    refine g_iconst C dX5_readsOne_16 ic_1 ?_
    refine g_iadd C dX5_readsOne_17 ?_
    refine g_putI C in_X5_readsOne_X5 (k := 15) lk_X5_readsOne_1 rfl (Nat.le_of_ble_eq_true rfl) rfl (Nat.le_of_ble_eq_true rfl) tyX5 tyX5_ok nmX5 rfl rfl rfl rfl dX5_readsOne_18 ?_
    refine g_lets hf (fun σ1 hf => ?_)
    refine g_aload_n C 0 dX5_readsOne_21 rfl rfl ?_
    refine g_iload_n C 1 dX5_readsOne_22 rfl rfl ?_
    refine g_aload_n C 0 dX5_readsOne_23 rfl rfl ?_
    refine g_getI C in_X5_readsOne_X5 (k := 15) lk_X5_readsOne_1 rfl (Nat.le_of_ble_eq_true rfl) rfl (Nat.le_of_ble_eq_true rfl) rfl dX5_readsOne_24 ?_
    obtain ⟨r3, hc2, hf⟩ := g_bind hf
    refine g_callVi C (mX5_byteAt l0 D0 K0 h σ1 a1 (pI σ1 0 15) hc2) gX5_readsOne_X5_byteAt rfl rfl rfl ddX5_byteAt ⟨(Nat.le_of_ble_eq_true rfl), (Nat.le_of_ble_eq_true rfl)⟩ rfl (Nat.le_of_ble_eq_true rfl) rfl rfl rfl (Nat.le_of_ble_eq_true rfl) dX5_readsOne_27 ?_
    obtain ⟨r5, hc4, hf⟩ := g_bind hf
    refine g_callSi C (mX5_kindOf l0 D0 K0 h σ1 r3 hc4) gX5_readsOne_X5_kindOf rfl rfl rfl ddX5_kindOf ⟨(Nat.le_of_ble_eq_true rfl), (Nat.le_of_ble_eq_true rfl)⟩ rfl rfl (Nat.le_of_ble_eq_true rfl) dX5_readsOne_30 ?_
    refine g_istore_n C [1, 2, 0] dX5_readsOne_33 rfl (Nat.le_of_ble_eq_true rfl) rfl ?_
    refine g_iload_n C 2 dX5_readsOne_34 rfl rfl ?_
    refine g_bipush C dX5_readsOne_35 bp_m9 ?_
    refine g_icmp_ne (tgt := 42) hf C dX5_readsOne_37 (by decide) (fun hf => ?_) (fun hf => ?_)
    · refine g_aload_n C 0 dX5_readsOne_42 rfl rfl ?_
      refine g_dup C dX5_readsOne_43 rfl ?_
      refine g_getI C in_X5_readsOne_X5 (k := 15) lk_X5_readsOne_1 rfl (Nat.le_of_ble_eq_true rfl) rfl (Nat.le_of_ble_eq_true rfl) rfl dX5_readsOne_44 ?_
      refine g_iconst C dX5_readsOne_47 ic_1 ?_
      refine g_iadd C dX5_readsOne_48 ?_
      refine g_putI C in_X5_readsOne_X5 (k := 15) lk_X5_readsOne_1 rfl (Nat.le_of_ble_eq_true rfl) rfl (Nat.le_of_ble_eq_true rfl) tyX5 tyX5_ok nmX5 rfl rfl rfl rfl dX5_readsOne_49 ?_
      refine g_lets hf (fun σ6 hf => ?_)
      refine g_bipush C dX5_readsOne_52 bp_m9 ?_
      refine g_istore_n C [1, 2, 3, 0] dX5_readsOne_54 rfl (Nat.le_of_ble_eq_true rfl) rfl ?_
      refine g_iload_n C 2 dX5_readsOne_55 rfl rfl ?_
      refine g_iconst C dX5_readsOne_56 ic_3 ?_
      refine g_join (P := fun j => ∀ (y8 : Int32) (σ9 : pS), j y8 σ9 = some (r, u) → G wM h X 81 [(0, .ref (h 0)), (1, .int a1), (2, .int r5), (3, .int y8)] [] σ9) hf (fun y8 σ9 hf => ?_) (fun j7 hj7 hf => ?_)
      · refine g_iconst C dX5_readsOne_81 ic_0 ?_
        refine g_istore C [1, 2, 3, 4, 0] dX5_readsOne_82 (Nat.le_of_ble_eq_true rfl) rfl ?_
        refine lX5_readsOne_84_ok a1 r5 y8 C hret (fun y25 σ26 hf => ?_) FU (0 : Int32) σ9 hf
        refine g_iconst C dX5_readsOne_168 ic_4 ?_
        refine g_aload_n C 0 dX5_readsOne_169 rfl rfl ?_
        refine g_getI C in_X5_readsOne_X5 (k := 17) lk_X5_readsOne_0 rfl (Nat.le_of_ble_eq_true rfl) rfl (Nat.le_of_ble_eq_true rfl) rfl dX5_readsOne_170 ?_
        refine g_imul C dX5_readsOne_173 ?_
        refine g_leti hf (fun x27 hf => ?_)
        refine g_istore C [1, 2, 3, 4, 0] dX5_readsOne_174 (Nat.le_of_ble_eq_true rfl) rfl ?_
        refine g_aload_n C 0 dX5_readsOne_176 rfl rfl ?_
        refine g_getC (n := 9) C in_X5_readsOne_X5 (k := 19) lk_X5_readsOne_3 rfl (Nat.le_of_ble_eq_true rfl) rfl (Nat.le_of_ble_eq_true rfl) rfl dX5_readsOne_177 ?_
        refine g_iload C 4 dX5_readsOne_180 rfl ?_
        refine g_iload_n C 1 dX5_readsOne_182 rfl rfl ?_
        refine g_iast hf C rfl (Nat.le_of_ble_eq_true rfl) dX5_readsOne_183 (fun hf => ?_)
        refine g_lets hf (fun σ28 hf => ?_)
        refine g_aload_n C 0 dX5_readsOne_184 rfl rfl ?_
        refine g_getC (n := 9) C in_X5_readsOne_X5 (k := 19) lk_X5_readsOne_3 rfl (Nat.le_of_ble_eq_true rfl) rfl (Nat.le_of_ble_eq_true rfl) rfl dX5_readsOne_185 ?_
        refine g_iload C 4 dX5_readsOne_188 rfl ?_
        refine g_iconst C dX5_readsOne_190 ic_1 ?_
        refine g_iadd C dX5_readsOne_191 ?_
        refine g_iload_n C 2 dX5_readsOne_192 rfl rfl ?_
        refine g_iast hf C rfl (Nat.le_of_ble_eq_true rfl) dX5_readsOne_193 (fun hf => ?_)
        refine g_lets hf (fun σ29 hf => ?_)
        refine g_aload_n C 0 dX5_readsOne_194 rfl rfl ?_
        refine g_getC (n := 9) C in_X5_readsOne_X5 (k := 19) lk_X5_readsOne_3 rfl (Nat.le_of_ble_eq_true rfl) rfl (Nat.le_of_ble_eq_true rfl) rfl dX5_readsOne_195 ?_
        refine g_iload C 4 dX5_readsOne_198 rfl ?_
        refine g_iconst C dX5_readsOne_200 ic_2 ?_
        refine g_iadd C dX5_readsOne_201 ?_
        refine g_iload C 3 dX5_readsOne_202 rfl ?_
        refine g_iast hf C rfl (Nat.le_of_ble_eq_true rfl) dX5_readsOne_204 (fun hf => ?_)
        refine g_lets hf (fun σ30 hf => ?_)
        refine g_aload_n C 0 dX5_readsOne_205 rfl rfl ?_
        refine g_getC (n := 9) C in_X5_readsOne_X5 (k := 19) lk_X5_readsOne_3 rfl (Nat.le_of_ble_eq_true rfl) rfl (Nat.le_of_ble_eq_true rfl) rfl dX5_readsOne_206 ?_
        refine g_iload C 4 dX5_readsOne_209 rfl ?_
        refine g_iconst C dX5_readsOne_211 ic_3 ?_
        refine g_iadd C dX5_readsOne_212 ?_
        refine g_iconst C dX5_readsOne_213 ic_5 ?_
        refine g_iast hf C rfl (Nat.le_of_ble_eq_true rfl) dX5_readsOne_214 (fun hf => ?_)
        refine g_lets hf (fun σ31 hf => ?_)
        refine g_aload_n C 0 dX5_readsOne_215 rfl rfl ?_
        refine g_dup C dX5_readsOne_216 rfl ?_
        refine g_getI C in_X5_readsOne_X5 (k := 17) lk_X5_readsOne_0 rfl (Nat.le_of_ble_eq_true rfl) rfl (Nat.le_of_ble_eq_true rfl) rfl dX5_readsOne_217 ?_
        refine g_iconst C dX5_readsOne_220 ic_1 ?_
        refine g_iadd C dX5_readsOne_221 ?_
        refine g_putI C in_X5_readsOne_X5 (k := 17) lk_X5_readsOne_0 rfl (Nat.le_of_ble_eq_true rfl) rfl (Nat.le_of_ble_eq_true rfl) tyX5 tyX5_ok nmX5 rfl rfl rfl rfl dX5_readsOne_222 ?_
        refine g_lets hf (fun σ32 hf => ?_)
        refine g_iconst C dX5_readsOne_225 ic_1 ?_
        exact g_retzW hf (by decide) hret dX5_readsOne_226
      · refine g_join (P := fun j => j = some (r, u) → G wM h X 65 [(0, .ref (h 0)), (1, .int a1), (2, .int r5)] [] σ6) hf (fun hf => ?_) (fun j33 hj33 hf => ?_)
        · refine g_aload_n C 0 dX5_readsOne_65 rfl rfl ?_
          refine g_iload_n C 1 dX5_readsOne_66 rfl rfl ?_
          refine g_iconst C dX5_readsOne_67 ic_m1 ?_
          obtain ⟨r35, σ36, hc34, hf⟩ := g_pbind hf
          refine g_callVi C (mX5_letter l0 D0 K0 h σ6 a1 (-1 : Int32) hc34) gX5_readsOne_X5_letter rfl rfl rfl ddX5_letter ⟨(Nat.le_of_ble_eq_true rfl), (Nat.le_of_ble_eq_true rfl)⟩ rfl (Nat.le_of_ble_eq_true rfl) rfl rfl rfl (Nat.le_of_ble_eq_true rfl) dX5_readsOne_68 ?_
          refine g_if_ne (tgt := 76) hf C dX5_readsOne_71 (by decide) (fun hf => ?_) (fun hf => ?_)
          · refine g_aload_n C 0 dX5_readsOne_76 rfl rfl ?_
            refine g_getI C in_X5_readsOne_X5 (k := 16) lk_X5_readsOne_2 rfl (Nat.le_of_ble_eq_true rfl) rfl (Nat.le_of_ble_eq_true rfl) rfl dX5_readsOne_77 ?_
            refine g_leti hf (fun x37 hf => ?_)
            refine g_istore_n C [1, 2, 3, 0] dX5_readsOne_80 rfl (Nat.le_of_ble_eq_true rfl) rfl ?_
            exact hj7 x37 σ36 hf
          · refine g_iconst C dX5_readsOne_74 ic_0 ?_
            exact g_retzW hf (by decide) hret dX5_readsOne_75
        · refine g_icmp_eq (tgt := 65) hf C dX5_readsOne_57 (by decide) (fun hf => ?_) (fun hf => ?_)
          · refine g_lv [0, 1, 2] rfl ?_
            exact hj33 hf
          · refine g_iload_n C 2 dX5_readsOne_60 rfl rfl ?_
            refine g_iconst C dX5_readsOne_61 ic_4 ?_
            refine g_icmp_ne (tgt := 81) hf C dX5_readsOne_62 (by decide) (fun hf => ?_) (fun hf => ?_)
            · exact hj7 (-9 : Int32) σ6 hf
            · refine g_lv [0, 1, 2] rfl ?_
              exact hj33 hf
    · refine g_iconst C dX5_readsOne_40 ic_0 ?_
      exact g_retzW hf (by decide) hret dX5_readsOne_41
  · refine g_iconst C dX5_readsOne_9 ic_0 ?_
    exact g_retzW hf (by decide) hret dX5_readsOne_10
