theorem ic_6 : Int32.ofInt 6 = (6 : Int32) := by decide
theorem fl_lt (a b : Int32) : a < b ↔ a.toInt < b.toInt := Int32.lt_iff_toInt_lt
theorem fl_sub6 {L : Nat} (h : L ≤ 3072) : (nI L - 6).toInt = (L : Int) - 6 := by
  have := pk_sub_toInt (a := L) (b := 6) (by omega) (by omega)
  exact this
theorem i6_in {i : Int32} {j L : Nat} (hj : i = nI j) (k : Nat) (h : j + k < L) (hL : L ≤ 3072) {c : Int32} (hc : c = nI k) : vp_in (i + c) L := by
  rw [hj, hc, nI_add]
  exact vp_in_nI h (by omega)
set_option maxHeartbeats 4000000 in
set_option maxRecDepth 100000 in
theorem law_loop {hX hM : Nat → Nat} {Y : Cy} {l0 : Launch} {D0 : va_G} {K0 K1 : Nat → ClassId} {b L : Nat} {xs : Nat → Int32} (hL : L ≤ 3072) (C : C2 hX hM Y l0 D0 K0 K1 b L xs) {R : pS → pS → Prop} (O : Ops R) : ∀ (n j : Nat) (i : Int32) (σ τ : pS), L < j + n → i = nI j → j ≤ 6 * 600 → R σ τ → G2 hX hM Y 18 [(0, .ref b), (1, .ref (hX 0)), (2, .ref (hM 0)), (3, .int i)] [] σ τ := by
  intro n
  induction n with
  | zero =>
    intro j i σ τ hn hi hj hR
    refine k_iload_n C 3 dL_law_18 rfl rfl ?_
    refine k_aload_n C 0 dL_law_19 rfl rfl ?_
    refine k_slen C dL_law_20 ?_
    refine k_bipush C dL_law_21 bp_6 ?_
    refine k_isub C dL_law_23 ?_
    refine k_icmp_gt (tgt := 1355) C dL_law_24 (by decide) (fun _ => ?_) (fun hc => ?_)
    · refine k_iconst C dL_law_1355 ic_1 ?_
      exact k_ret1 C dL_law_1356
    · refine absurd ?_ hc
      rw [hi, fl_lt, fl_sub6 (by omega), nI_toInt (by omega)]
      omega
  | succ n ih =>
    intro j i σ τ hn hi hj hR
    refine k_iload_n C 3 dL_law_18 rfl rfl ?_
    refine k_aload_n C 0 dL_law_19 rfl rfl ?_
    refine k_slen C dL_law_20 ?_
    refine k_bipush C dL_law_21 bp_6 ?_
    refine k_isub C dL_law_23 ?_
    refine k_icmp_gt (tgt := 1355) C dL_law_24 (by decide) (fun _ => ?_) (fun hc => ?_)
    · refine k_iconst C dL_law_1355 ic_1 ?_
      exact k_ret1 C dL_law_1356
    rw [hi, fl_lt, fl_sub6 (by omega), nI_toInt (by omega)] at hc
    have hjL : j + 6 ≤ L := by omega
    have go : ∀ (σ τ : pS), R σ τ → G2 hX hM Y 1349 [(0, .ref b), (1, .ref (hX 0)), (2, .ref (hM 0)), (3, .int i)] [] σ τ := by
      intro σ τ hR
      refine k_iinc C 3 [1, 2, 3, 0] dL_law_1349 rfl ic_6 (Nat.le_of_ble_eq_true rfl) rfl ?_
      refine k_goto (tgt := 18) C dL_law_1352 (by decide) ?_
      exact ih (j + 6) (i + 6) σ τ (by omega) (by rw [hi]; exact nI_add j 6) (by omega) hR
    have hi0 : vp_in i L := by rw [hi]; exact vp_in_nI (by omega) (by omega)
    have hi1 : vp_in (i + 1) L := i6_in hi 1 (by omega) hL rfl
    have hi2 : vp_in (i + 2) L := i6_in hi 2 (by omega) hL rfl
    have hi3 : vp_in (i + 3) L := i6_in hi 3 (by omega) hL rfl
    have hi4 : vp_in (i + 4) L := i6_in hi 4 (by omega) hL rfl
    have hi5 : vp_in (i + 5) L := i6_in hi 5 (by omega) hL rfl
    refine k_aload_n C 0 dL_law_27 rfl rfl ?_
    refine k_iload_n C 3 dL_law_28 rfl rfl ?_
    refine k_sld C hi0 dL_law_29 ?_
    refine k_bipush C dL_law_30 bp_63 ?_
    refine k_iand C dL_law_32 ?_
    generalize (xs i.toNatClampNeg) &&& 63 = x
    obtain ⟨o0, o1, o2, o3, o4, o5, o6, o7, o8, o9, o10, o11, o12, o13, o14, o15, o16, o17, o18, o19, o20, o21, o22, o23, o24, o25, o26, o27, o28, o29, o30, o31, o32, o33, o34, o35, o36, o37, o38, o39, o40, o41, o42, o43⟩ := O
    by_cases hx0 : x = 0
    · obtain ⟨r, ux, um, hx, hm, hR⟩ := o0 σ τ (xs (i + 1).toNatClampNeg) (xs (i + 2).toNatClampNeg) hR
      refine k_swin (tgt := 224) hx0 C dL_law_33 (by decide) (by decide) rfl (by decide) ?_
      exact law_row C hi1 hi2 hx hm (go _ _ hR)
    by_cases hx1 : x = 1
    · obtain ⟨r, ux, um, hx, hm, hR⟩ := o1 σ τ (xs (i + 1).toNatClampNeg) (xs (i + 2).toNatClampNeg) (xs (i + 3).toNatClampNeg) hR
      refine k_swin (tgt := 257) hx1 C dL_law_33 (by decide) (by decide) rfl (by decide) ?_
      exact law_lay C hi1 hi2 hi3 hx hm (go _ _ hR)
    by_cases hx2 : x = 2
    · obtain ⟨r, ux, um, hx, hm, hR⟩ := o2 σ τ (xs (i + 1).toNatClampNeg) (xs (i + 2).toNatClampNeg) hR
      refine k_swin (tgt := 300) hx2 C dL_law_33 (by decide) (by decide) rfl (by decide) ?_
      exact law_at C hi1 hi2 hx hm (go _ _ hR)
    by_cases hx3 : x = 3
    · obtain ⟨r, ux, um, hx, hm, hR⟩ := o3 σ τ (xs (i + 1).toNatClampNeg) hR
      refine k_swin (tgt := 333) hx3 C dL_law_33 (by decide) (by decide) rfl (by decide) ?_
      exact law_tear C hi1 hx hm (go _ _ hR)
    by_cases hx4 : x = 4
    · obtain ⟨r, ux, um, hx, hm, hR⟩ := o4 σ τ (xs (i + 1).toNatClampNeg) (xs (i + 2).toNatClampNeg) (xs (i + 3).toNatClampNeg) (xs (i + 4).toNatClampNeg) (xs (i + 5).toNatClampNeg) hR
      refine k_swin (tgt := 356) hx4 C dL_law_33 (by decide) (by decide) rfl (by decide) ?_
      exact law_copy C hi1 hi2 hi3 hi4 hi5 hx hm (go _ _ hR)
    by_cases hx5 : x = 5
    · obtain ⟨r, ux, um, hx, hm, hR⟩ := o5 σ τ (xs (i + 1).toNatClampNeg) hR
      refine k_swin (tgt := 419) hx5 C dL_law_33 (by decide) (by decide) rfl (by decide) ?_
      exact law_mean C hi1 hx hm (go _ _ hR)
    by_cases hx6 : x = 6
    · obtain ⟨r, ux, um, hx, hm, hR⟩ := o6 σ τ (xs (i + 1).toNatClampNeg) (xs (i + 2).toNatClampNeg) hR
      refine k_swin (tgt := 442) hx6 C dL_law_33 (by decide) (by decide) rfl (by decide) ?_
      exact law_text C hi1 hi2 hx hm (go _ _ hR)
    by_cases hx7 : x = 7
    · obtain ⟨r, ux, um, hx, hm, hR⟩ := o7 σ τ (xs (i + 1).toNatClampNeg) (xs (i + 2).toNatClampNeg) (xs (i + 3).toNatClampNeg) hR
      refine k_swin (tgt := 475) hx7 C dL_law_33 (by decide) (by decide) rfl (by decide) ?_
      exact law_put C hi1 hi2 hi3 hx hm (go _ _ hR)
    by_cases hx8 : x = 8
    · obtain ⟨r, ux, um, hx, hm, hR⟩ := o8 σ τ (xs (i + 1).toNatClampNeg) hR
      refine k_swin (tgt := 518) hx8 C dL_law_33 (by decide) (by decide) rfl (by decide) ?_
      exact law_fault C hi1 hx hm (go _ _ hR)
    by_cases hx9 : x = 9
    · obtain ⟨r, ux, um, hx, hm, hR⟩ := o9 σ τ (xs (i + 1).toNatClampNeg) hR
      refine k_swin (tgt := 541) hx9 C dL_law_33 (by decide) (by decide) rfl (by decide) ?_
      exact law_village C hi1 hx hm (go _ _ hR)
    by_cases hx10 : x = 10
    · obtain ⟨r, ux, um, hx, hm, hR⟩ := o10 σ τ (xs (i + 1).toNatClampNeg) (xs (i + 2).toNatClampNeg) hR
      refine k_swin (tgt := 564) hx10 C dL_law_33 (by decide) (by decide) rfl (by decide) ?_
      exact law_one C hi1 hi2 hx hm (go _ _ hR)
    by_cases hx11 : x = 11
    · obtain ⟨r, ux, um, hx, hm, hR⟩ := o11 σ τ (xs (i + 1).toNatClampNeg) (xs (i + 2).toNatClampNeg) hR
      refine k_swin (tgt := 597) hx11 C dL_law_33 (by decide) (by decide) rfl (by decide) ?_
      exact law_mark C hi1 hi2 hx hm (go _ _ hR)
    by_cases hx12 : x = 12
    · obtain ⟨r, ux, um, hx, hm, hR⟩ := o12 σ τ (xs (i + 1).toNatClampNeg) (xs (i + 2).toNatClampNeg) hR
      refine k_swin (tgt := 630) hx12 C dL_law_33 (by decide) (by decide) rfl (by decide) ?_
      exact law_debt C hi1 hi2 hx hm (go _ _ hR)
    by_cases hx13 : x = 13
    · obtain ⟨r, ux, um, hx, hm, hR⟩ := o13 σ τ (xs (i + 1).toNatClampNeg) hR
      refine k_swin (tgt := 663) hx13 C dL_law_33 (by decide) (by decide) rfl (by decide) ?_
      exact law_law C hi1 hx hm (go _ _ hR)
    by_cases hx14 : x = 14
    · obtain ⟨r, ux, um, hx, hm, hR⟩ := o14 σ τ (xs (i + 1).toNatClampNeg) (xs (i + 2).toNatClampNeg) hR
      refine k_swin (tgt := 686) hx14 C dL_law_33 (by decide) (by decide) rfl (by decide) ?_
      exact law_cards C hi1 hi2 hx hm (go _ _ hR)
    by_cases hx15 : x = 15
    · obtain ⟨r, ux, um, hx, hm, hR⟩ := o15 σ τ (xs (i + 1).toNatClampNeg) (xs (i + 2).toNatClampNeg) (xs (i + 3).toNatClampNeg) hR
      refine k_swin (tgt := 719) hx15 C dL_law_33 (by decide) (by decide) rfl (by decide) ?_
      exact law_habit C hi1 hi2 hi3 hx hm (go _ _ hR)
    by_cases hx16 : x = 16
    · obtain ⟨r, hx, hm, hR⟩ := o16 σ τ (xs (i + 1).toNatClampNeg) hR
      refine k_swin (tgt := 762) hx16 C dL_law_33 (by decide) (by decide) rfl (by decide) ?_
      exact law_empty C hi1 hx hm (go _ _ hR)
    by_cases hx17 : x = 17
    · obtain ⟨r, hx, hm, hR⟩ := o17 σ τ (xs (i + 1).toNatClampNeg) hR
      refine k_swin (tgt := 785) hx17 C dL_law_33 (by decide) (by decide) rfl (by decide) ?_
      exact law_when C hi1 hx hm (go _ _ hR)
    by_cases hx18 : x = 18
    · obtain ⟨r, ux, um, hx, hm, hR⟩ := o18 σ τ (xs (i + 1).toNatClampNeg) hR
      refine k_swin (tgt := 808) hx18 C dL_law_33 (by decide) (by decide) rfl (by decide) ?_
      exact law_hour C hi1 hx hm (go _ _ hR)
    by_cases hx19 : x = 19
    · obtain ⟨r, ux, um, hx, hm, hR⟩ := o19 σ τ (xs (i + 1).toNatClampNeg) hR
      refine k_swin (tgt := 831) hx19 C dL_law_33 (by decide) (by decide) rfl (by decide) ?_
      exact law_judge C hi1 hx hm (go _ _ hR)
    by_cases hx20 : x = 20
    · obtain ⟨r, ux, um, hx, hm, hR⟩ := o20 σ τ (xs (i + 1).toNatClampNeg) hR
      refine k_swin (tgt := 854) hx20 C dL_law_33 (by decide) (by decide) rfl (by decide) ?_
      exact law_worth C hi1 hx hm (go _ _ hR)
    by_cases hx21 : x = 21
    · obtain ⟨r, ux, um, hx, hm, hR⟩ := o21 σ τ (xs (i + 1).toNatClampNeg) hR
      refine k_swin (tgt := 877) hx21 C dL_law_33 (by decide) (by decide) rfl (by decide) ?_
      exact law_best C hi1 hx hm (go _ _ hR)
    by_cases hx22 : x = 22
    · obtain ⟨r, ux, um, hx, hm, hR⟩ := o22 σ τ hR
      refine k_swin (tgt := 900) hx22 C dL_law_33 (by decide) (by decide) rfl (by decide) ?_
      exact law_ways C hx hm (go _ _ hR)
    by_cases hx23 : x = 23
    · obtain ⟨r, ux, um, hx, hm, hR⟩ := o23 σ τ hR
      refine k_swin (tgt := 913) hx23 C dL_law_33 (by decide) (by decide) rfl (by decide) ?_
      exact law_soonest C hx hm (go _ _ hR)
    by_cases hx24 : x = 24
    · obtain ⟨r, ux, um, hx, hm, hR⟩ := o24 σ τ hR
      refine k_swin (tgt := 926) hx24 C dL_law_33 (by decide) (by decide) rfl (by decide) ?_
      exact law_rings C hx hm (go _ _ hR)
    by_cases hx25 : x = 25
    · obtain ⟨r, ux, um, hx, hm, hR⟩ := o25 σ τ (xs (i + 1).toNatClampNeg) (xs (i + 2).toNatClampNeg) hR
      refine k_swin (tgt := 939) hx25 C dL_law_33 (by decide) (by decide) rfl (by decide) ?_
      exact law_few C hi1 hi2 hx hm (go _ _ hR)
    by_cases hx26 : x = 26
    · obtain ⟨r, ux, um, hx, hm, hR⟩ := o26 σ τ hR
      refine k_swin (tgt := 972) hx26 C dL_law_33 (by decide) (by decide) rfl (by decide) ?_
      exact law_call C hx hm (go _ _ hR)
    by_cases hx27 : x = 27
    · obtain ⟨r, ux, um, hx, hm, hR⟩ := o27 σ τ (xs (i + 1).toNatClampNeg) hR
      refine k_swin (tgt := 985) hx27 C dL_law_33 (by decide) (by decide) rfl (by decide) ?_
      exact law_stay C hi1 hx hm (go _ _ hR)
    by_cases hx28 : x = 28
    · obtain ⟨r, ux, um, hx, hm, hR⟩ := o28 σ τ (xs (i + 1).toNatClampNeg) (xs (i + 2).toNatClampNeg) hR
      refine k_swin (tgt := 1008) hx28 C dL_law_33 (by decide) (by decide) rfl (by decide) ?_
      exact law_against C hi1 hi2 hx hm (go _ _ hR)
    by_cases hx29 : x = 29
    · obtain ⟨r, ux, um, hx, hm, hR⟩ := o29 σ τ (xs (i + 1).toNatClampNeg) hR
      refine k_swin (tgt := 1041) hx29 C dL_law_33 (by decide) (by decide) rfl (by decide) ?_
      exact law_family C hi1 hx hm (go _ _ hR)
    by_cases hx30 : x = 30
    · obtain ⟨r, ux, um, hx, hm, hR⟩ := o30 σ τ (xs (i + 1).toNatClampNeg) (xs (i + 2).toNatClampNeg) hR
      refine k_swin (tgt := 1064) hx30 C dL_law_33 (by decide) (by decide) rfl (by decide) ?_
      exact law_pay C hi1 hi2 hx hm (go _ _ hR)
    by_cases hx31 : x = 31
    · obtain ⟨r, ux, um, hx, hm, hR⟩ := o31 σ τ (xs (i + 1).toNatClampNeg) hR
      refine k_swin (tgt := 1097) hx31 C dL_law_33 (by decide) (by decide) rfl (by decide) ?_
      exact law_unpay C hi1 hx hm (go _ _ hR)
    by_cases hx32 : x = 32
    · obtain ⟨r, ux, um, hx, hm, hR⟩ := o32 σ τ hR
      refine k_swin (tgt := 1120) hx32 C dL_law_33 (by decide) (by decide) rfl (by decide) ?_
      exact law_paid C hx hm (go _ _ hR)
    by_cases hx33 : x = 33
    · obtain ⟨r, ux, um, hx, hm, hR⟩ := o33 σ τ (xs (i + 1).toNatClampNeg) hR
      refine k_swin (tgt := 1133) hx33 C dL_law_33 (by decide) (by decide) rfl (by decide) ?_
      exact law_keep C hi1 hx hm (go _ _ hR)
    by_cases hx34 : x = 34
    · obtain ⟨r, ux, um, hx, hm, hR⟩ := o34 σ τ (xs (i + 1).toNatClampNeg) hR
      refine k_swin (tgt := 1156) hx34 C dL_law_33 (by decide) (by decide) rfl (by decide) ?_
      exact law_on C hi1 hx hm (go _ _ hR)
    by_cases hx35 : x = 35
    · obtain ⟨r, ux, um, hx, hm, hR⟩ := o35 σ τ (xs (i + 1).toNatClampNeg) (xs (i + 2).toNatClampNeg) hR
      refine k_swin (tgt := 1179) hx35 C dL_law_33 (by decide) (by decide) rfl (by decide) ?_
      exact law_must C hi1 hi2 hx hm (go _ _ hR)
    by_cases hx36 : x = 36
    · obtain ⟨r, ux, um, hx, hm, hR⟩ := o36 σ τ (xs (i + 1).toNatClampNeg) hR
      refine k_swin (tgt := 1212) hx36 C dL_law_33 (by decide) (by decide) rfl (by decide) ?_
      exact law_liars C hi1 hx hm (go _ _ hR)
    by_cases hx37 : x = 37
    · obtain ⟨r, hx, hm, hR⟩ := o37 σ τ hR
      refine k_swin (tgt := 1235) hx37 C dL_law_33 (by decide) (by decide) rfl (by decide) ?_
      exact law_asked C hx hm (go _ _ hR)
    by_cases hx38 : x = 38
    · obtain ⟨r, hx, hm, hR⟩ := o38 σ τ hR
      refine k_swin (tgt := 1248) hx38 C dL_law_33 (by decide) (by decide) rfl (by decide) ?_
      exact law_upper C hx hm (go _ _ hR)
    by_cases hx39 : x = 39
    · obtain ⟨r, hx, hm, hR⟩ := o39 σ τ hR
      refine k_swin (tgt := 1262) hx39 C dL_law_33 (by decide) (by decide) rfl (by decide) ?_
      exact law_lower C hx hm (go _ _ hR)
    by_cases hx40 : x = 40
    · obtain ⟨r, hx, hm, hR⟩ := o40 σ τ (xs (i + 1).toNatClampNeg) hR
      refine k_swin (tgt := 1276) hx40 C dL_law_33 (by decide) (by decide) rfl (by decide) ?_
      exact law_count C hi1 hx hm (go _ _ hR)
    by_cases hx41 : x = 41
    · obtain ⟨r, hx, hm, hR⟩ := o41 σ τ hR
      refine k_swin (tgt := 1299) hx41 C dL_law_33 (by decide) (by decide) rfl (by decide) ?_
      exact law_finding C hx hm (go _ _ hR)
    by_cases hx42 : x = 42
    · obtain ⟨r, hx, hm, hR⟩ := o42 σ τ (xs (i + 1).toNatClampNeg) hR
      refine k_swin (tgt := 1312) hx42 C dL_law_33 (by decide) (by decide) rfl (by decide) ?_
      exact law_findings C hi1 hx hm (go _ _ hR)
    by_cases hx43 : x = 43
    · obtain ⟨r, um, hx, hm, hR⟩ := o43 σ τ hR
      refine k_swin (tgt := 1335) hx43 C dL_law_33 (by decide) (by decide) rfl (by decide) ?_
      exact law_digest C hx hm (go _ _ hR)
    refine k_swout (tgt := 1349) C dL_law_33 ?_ (by decide) (go _ _ hR)
    have e0 := lv_neT (a := 0) hx0 (by decide)
    have e1 := lv_neT (a := 1) hx1 (by decide)
    have e2 := lv_neT (a := 2) hx2 (by decide)
    have e3 := lv_neT (a := 3) hx3 (by decide)
    have e4 := lv_neT (a := 4) hx4 (by decide)
    have e5 := lv_neT (a := 5) hx5 (by decide)
    have e6 := lv_neT (a := 6) hx6 (by decide)
    have e7 := lv_neT (a := 7) hx7 (by decide)
    have e8 := lv_neT (a := 8) hx8 (by decide)
    have e9 := lv_neT (a := 9) hx9 (by decide)
    have e10 := lv_neT (a := 10) hx10 (by decide)
    have e11 := lv_neT (a := 11) hx11 (by decide)
    have e12 := lv_neT (a := 12) hx12 (by decide)
    have e13 := lv_neT (a := 13) hx13 (by decide)
    have e14 := lv_neT (a := 14) hx14 (by decide)
    have e15 := lv_neT (a := 15) hx15 (by decide)
    have e16 := lv_neT (a := 16) hx16 (by decide)
    have e17 := lv_neT (a := 17) hx17 (by decide)
    have e18 := lv_neT (a := 18) hx18 (by decide)
    have e19 := lv_neT (a := 19) hx19 (by decide)
    have e20 := lv_neT (a := 20) hx20 (by decide)
    have e21 := lv_neT (a := 21) hx21 (by decide)
    have e22 := lv_neT (a := 22) hx22 (by decide)
    have e23 := lv_neT (a := 23) hx23 (by decide)
    have e24 := lv_neT (a := 24) hx24 (by decide)
    have e25 := lv_neT (a := 25) hx25 (by decide)
    have e26 := lv_neT (a := 26) hx26 (by decide)
    have e27 := lv_neT (a := 27) hx27 (by decide)
    have e28 := lv_neT (a := 28) hx28 (by decide)
    have e29 := lv_neT (a := 29) hx29 (by decide)
    have e30 := lv_neT (a := 30) hx30 (by decide)
    have e31 := lv_neT (a := 31) hx31 (by decide)
    have e32 := lv_neT (a := 32) hx32 (by decide)
    have e33 := lv_neT (a := 33) hx33 (by decide)
    have e34 := lv_neT (a := 34) hx34 (by decide)
    have e35 := lv_neT (a := 35) hx35 (by decide)
    have e36 := lv_neT (a := 36) hx36 (by decide)
    have e37 := lv_neT (a := 37) hx37 (by decide)
    have e38 := lv_neT (a := 38) hx38 (by decide)
    have e39 := lv_neT (a := 39) hx39 (by decide)
    have e40 := lv_neT (a := 40) hx40 (by decide)
    have e41 := lv_neT (a := 41) hx41 (by decide)
    have e42 := lv_neT (a := 42) hx42 (by decide)
    have e43 := lv_neT (a := 43) hx43 (by decide)
    omega
