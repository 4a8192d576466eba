/-! the law from its entry, over any relation that the calls keep -/
theorem va_P_left {D : va_G} {cl : List vw_C} {a b : va_W} {H : Heap} (h : va_P D cl (a ++ b) H) : va_P D cl a H := fun k q hk => h k q (by rw [List.getElem?_append_left (List.getElem?_eq_some_iff.mp hk).1]; exact hk)
theorem va_P_right {D : va_G} {cl : List vw_C} {a b : va_W} {H : Heap} (h : va_P D cl (a ++ b) H) : va_P D cl b H := fun k q hk => h (a.length + k) q (by rw [List.getElem?_append_right (by omega)]; rw [show a.length + k - a.length = k by omega]; exact hk)
theorem va_D_left {A : Nat → Prop} {a b : va_W} (h : va_D A (a ++ b)) : va_D A a := ⟨fun i j x y hi hj hxy => h.1 i j x y (by rw [List.getElem?_append_left (List.getElem?_eq_some_iff.mp hi).1]; exact hi) (by rw [List.getElem?_append_left (List.getElem?_eq_some_iff.mp hj).1]; exact hj) hxy, fun k q hk => h.2 k q (by rw [List.getElem?_append_left (List.getElem?_eq_some_iff.mp hk).1]; exact hk)⟩
theorem va_D_right {A : Nat → Prop} {a b : va_W} (h : va_D A (a ++ b)) : va_D A b := by
  have e : ∀ k : Nat, (a ++ b)[a.length + k]? = b[k]? := fun k => by rw [List.getElem?_append_right (by omega), show a.length + k - a.length = k by omega]
  refine ⟨fun i j x y hi hj hxy => ?_, fun k q hk => h.2 (a.length + k) q (by rw [e]; exact hk)⟩
  have := h.1 (a.length + i) (a.length + j) x y (by rw [e]; exact hi) (by rw [e]; exact hj) hxy
  omega
theorem va_D_apart {A : Nat → Prop} {a b : va_W} (h : va_D A (a ++ b)) {i j : Nat} {x y : Nat × va_E} (hi : a[i]? = some x) (hj : b[j]? = some y) : x.1 ≠ y.1 := by
  intro z
  have hl := (List.getElem?_eq_some_iff.mp hi).1
  have := h.1 i (a.length + j) x y (by rw [List.getElem?_append_left hl]; exact hi) (by rw [List.getElem?_append_right (by omega), show a.length + j - a.length = j by omega]; exact hj) z
  omega
theorem hs_T {s : State} {b : Nat} (hgv : (Jvm.Cond.and given_1 narrow_1).before #[Value.ref b] s = true) (hl : (Cond.laysStatic RX1 "HOUSE_SIGNS" "[B").before #[Value.ref b] s = true) (hini : (Cond.initialized RX1).before #[Value.ref b] s = true) : pZ wX (fun q : Nat => s.heap.size ≤ q) s s.heap := by
  intro _
  have hs := flat_of_before _ hgv
  have harr : (Cond.arrayOf (.static RX1 "HOUSE_SIGNS" "[B") .byte).before #[Value.ref b] s = true := hs _ (by decide +kernel)
  have hlen : (Cond.eq (.length (.static RX1 "HOUSE_SIGNS" "[B")) (.int 6)).before #[Value.ref b] s = true := hs _ (by decide +kernel)
  have e0 : (Cond.eq (.elem (.static RX1 "HOUSE_SIGNS" "[B") (.int 0)) (.int 104)).before #[Value.ref b] s = true := hs _ (by decide +kernel)
  have e1 : (Cond.eq (.elem (.static RX1 "HOUSE_SIGNS" "[B") (.int 1)) (.int 107)).before #[Value.ref b] s = true := hs _ (by decide +kernel)
  have e2 : (Cond.eq (.elem (.static RX1 "HOUSE_SIGNS" "[B") (.int 2)) (.int 115)).before #[Value.ref b] s = true := hs _ (by decide +kernel)
  have e3 : (Cond.eq (.elem (.static RX1 "HOUSE_SIGNS" "[B") (.int 3)) (.int 109)).before #[Value.ref b] s = true := hs _ (by decide +kernel)
  have e4 : (Cond.eq (.elem (.static RX1 "HOUSE_SIGNS" "[B") (.int 4)) (.int 108)).before #[Value.ref b] s = true := hs _ (by decide +kernel)
  have e5 : (Cond.eq (.elem (.static RX1 "HOUSE_SIGNS" "[B") (.int 5)) (.int 121)).before #[Value.ref b] s = true := hs _ (by decide +kernel)
  have hA : ∀ a : Nat, a < s.heap.size → ¬ (fun q : Nat => s.heap.size ≤ q) a := fun a h => Nat.not_le.mpr h
  obtain ⟨t, ht, hT⟩ := va_Tof (args := #[Value.ref b]) (s := s) (tm := .static RX1 "HOUSE_SIGNS" "[B") (ty := .byte) (N := 6) (f := fun j => .int (hsg j)) (A := fun q : Nat => s.heap.size ≤ q) (by decide) harr (va_eqt hlen) (fun j hj => by
    rcases (show j = 0 ∨ j = 1 ∨ j = 2 ∨ j = 3 ∨ j = 4 ∨ j = 5 by omega) with rfl | rfl | rfl | rfl | rfl | rfl
    · exact va_eqt e0
    · exact va_eqt e1
    · exact va_eqt e2
    · exact va_eqt e3
    · exact va_eqt e4
    · exact va_eqt e5) hA
  exact ⟨t, va_Zof hl hini ht hA, hT⟩
set_option maxHeartbeats 4000000 in
set_option maxRecDepth 100000 in
theorem start_of {R : pS → pS → Prop} (O : Ops R) (R0 : ∀ f g : Nat → Nat → Int32, (∀ i, i < 6 → f 0 i = -1) → (∀ i, i < 4 → f 1 i = -1) → (∀ i, i < 8 → f 2 i = -9) → (∀ i, i < 6 → g 0 i = -1) → (∀ i, i < 4 → g 1 i = -1) → R (sX0 f) (sM0 g)) {p : Program} {e : Env} {s : State} {m : MethodId} {below : List Frame} {meth : Method} {c : Code} (l : Launch) {b L : Nat} {xs : Nat → Int32} (hL : L ≤ 3072) (C0 : lw_At p s m meth c b L xs) : W p l e room_1 s m #[Value.ref b] below meth c s.heap [] 0 0 (lw_Z below #[Value.ref b] s) (entryFrame m ([Value.ref b] : List Value).toArray 4) := by
  obtain ⟨hx, hb, hr, hml, hown, htt, hX, hbl, hlocks, hgv⟩ := id C0
  have hts : ∀ w ∈ wsL_law, w.before #[Value.ref b] s = true := fun w h => htt w (wsL_law_in w h)
  have hA : ∀ q : Nat, s.heap.size ≤ q → (fun q : Nat => s.heap.size ≤ q) q := fun _ h => h
  have hZ : pZ wX (fun q : Nat => s.heap.size ≤ q) s s.heap := hs_T hgv (htt (.laysStatic RX1 "HOUSE_SIGNS" "[B") (by decide +kernel)) (htt (.initialized RX1) (by decide +kernel))
  have hE : cE s := ⟨htt (.arrayOver (.array .int)) (by decide +kernel), htt (.arrayOver (.array .byte)) (by decide +kernel), va_Nw.of rfl (htt (.methodLinkNest RX1 28 yX3_init RX4) (by decide +kernel)), va_Nw.of rfl (htt (.methodLinkNest RX4 28 yX1_init RX4) (by decide +kernel)), va_Nw.of rfl (htt (.methodLinkNest RX4 52 yX3_init RX4) (by decide +kernel))⟩
  obtain ⟨c0, iS0, hKn0⟩ := u_known (C := RX0) (T := TX0) (N := 3) (n := 3) htt inX0 (htt (.instantiable RX0 3) (by decide +kernel))
  obtain ⟨c1, iS1, hKn1⟩ := u_known (C := RX1) (T := TX1) (N := 5) (n := 5) htt inX1 (htt (.instantiable RX1 5) (by decide +kernel))
  obtain ⟨c2, iS2, hKn2⟩ := u_known (C := RX2) (T := TX2) (N := 12) (n := 12) htt inX2 (htt (.instantiable RX2 12) (by decide +kernel))
  obtain ⟨c3, iS3, hKn3⟩ := u_known (C := RX3) (T := TX3) (N := 11) (n := 11) htt inX3 (htt (.instantiable RX3 11) (by decide +kernel))
  obtain ⟨c4, iS4, hKn4⟩ := u_known (C := RX4) (T := TX4) (N := 13) (n := 13) htt inX4 (htt (.instantiable RX4 13) (by decide +kernel))
  obtain ⟨c5, iS5, hKn5⟩ := u_known (C := RX5) (T := TX5) (N := 30) (n := 30) htt inX5 (htt (.instantiable RX5 30) (by decide +kernel))
  obtain ⟨dC, dI, hKc⟩ : ∃ (dC : Nat → ClassId) (dI : Nat → Nat → Nat), ∀ (k : Nat) (q : vw_C), vwCl[k]? = some q → u_Kn s q.1 q.2.1 q.2.2 (dC k) (dI k) := by
    refine ⟨fun k => match k with | 0 => c0 | 1 => c1 | 2 => c2 | 3 => c3 | 4 => c4 | _ => c5, fun k => match k with | 0 => iS0 | 1 => iS1 | 2 => iS2 | 3 => iS3 | 4 => iS4 | _ => iS5, ?_⟩
    intro k q hq
    match k, hq with
    | 0, hq => cases hq; exact hKn0
    | 1, hq => cases hq; exact hKn1
    | 2, hq => cases hq; exact hKn2
    | 3, hq => cases hq; exact hKn3
    | 4, hq => cases hq; exact hKn4
    | 5, hq => cases hq; exact hKn5
    | k + 6, hq => simp [vwCl] at hq
  obtain ⟨D, hDd⟩ : ∃ D : va_G, D = (dC, dI) := ⟨_, rfl⟩
  have hS : va_S (fun q : Nat => s.heap.size ≤ q) s.heap s.heap [] := va_S.rf
  have hK : va_K D vwCl [] s := by rw [hDd]; exact ⟨hKc, fun k q h => by simp at h⟩
  have hP : va_P D vwCl [] s.heap := fun k q h => by simp at h
  have hD : va_D (fun q : Nat => s.heap.size ≤ q) [] := ⟨fun i j p q h => by simp at h, fun k q h => by simp at h⟩
  have hl := lv_entry ([.ref b]) (n := 4) (Nat.le_of_ble_eq_true rfl)
  rw [lg_entry_eq]
  generalize (lg_sl ([.ref b]) ++ List.replicate (4 - (lg_sl ([.ref b])).length) Slot.unset).toArray = ls at hl ⊢
  have hl : lv_has ls 4 [(0, .ref b)] := hl
  refine va_new (ci := 4) (fs := [.null, .null, .null, .null, .null, .null, .null, .null, .null, .int 0, .long 0, .long 0, .int 0]) (C := RX4) (T := TX4) (N := 13) hx hb htt inX4 tyX4 tyX4_ok hown (htt (.classLink RL 7 RX4) (by decide +kernel)) (htt (.instantiable RX4 13) (by decide +kernel)) (htt (.initialized RX4) (by decide +kernel)) hK hP hD hS hA rfl (fun j hj => by rcases (show j = 0 ∨ j = 1 ∨ j = 2 ∨ j = 3 ∨ j = 4 ∨ j = 5 ∨ j = 6 ∨ j = 7 ∨ j = 8 ∨ j = 9 ∨ j = 10 ∨ j = 11 ∨ j = 12 by omega) with rfl | rfl | rfl | rfl | rfl | rfl | rfl | rfl | rfl | rfl | rfl | rfl | rfl <;> rfl) (Nat.le_of_ble_eq_true rfl) (Nat.le_of_ble_eq_true rfl) dL_law_0 (fun q0 H hP hD hS => ?_)
  have hP : va_P D vwCl [(q0, .inr (4, [.null, .null, .null, .null, .null, .null, .null, .null, .null, .int 0, .long 0, .long 0, .int 0]))] H := hP
  have hD : va_D (fun q : Nat => s.heap.size ≤ q) [(q0, .inr (4, [.null, .null, .null, .null, .null, .null, .null, .null, .null, .int 0, .long 0, .long 0, .int 0]))] := hD
  refine lv_dup hx hb dL_law_3 rfl ?_
  have hFc := va_free (wc := [(q0, .inr (4, [.null, .null, .null, .null, .null, .null, .null, .null, .null, .int 0, .long 0, .long 0, .int 0]))]) hD hS hA [0] rfl
  refine va_callv (va_runI (As := []) (rest := [.ref q0]) ⟨hx, hb, hml, hown, hts⟩ (kX4_init l D q0 H.size) (cwI 0 hts gL_law_X4_init rfl rfl rfl (htt (.initialized RX4) (by decide +kernel)) (htt (.methodLink RL 9 yX4_init) (by decide +kernel)) (htt (.instanceMethod yX4_init) (by decide +kernel)) rfl (by decide +kernel) ⟨Nat.le_of_ble_eq_true rfl, Nat.le_of_ble_eq_true rfl⟩) ⟨fun a U g mk q => by obtain ⟨q0, q1, qP, qK, qD, qE⟩ := q; exact ⟨q0, q1, qP, va_K.moved (u := U) (U := U.calling g mk a) (Vm.Alike.refl U.vm) qK, qD, cE.call qE⟩, fun U hU hW => ⟨rfl, by rw [hU], by rw [hU]; exact hP, va_K.moved hW.alike hK, hD.weaken (fun _ _ _ _ => trivial), cE.warm hW hE⟩⟩ rfl rfl hl.1 rfl (lv_room (Nat.le_of_ble_eq_true rfl)) dL_law_4 ⟨Nat.le_of_ble_eq_true rfl, Nat.le_of_ble_eq_true rfl⟩) hS (fun q _ h => hFc q h) hFc (fun u t H1 locs ht hvm hw hB hz1 hk1 hS => ?_)
  obtain ⟨hX0, hKX, fX⟩ := u
  obtain ⟨hu0, hf0, hf1, hf2⟩ := hw
  obtain ⟨hPx, hKx, hDx⟩ := hB
  dsimp only at hu0 hf0 hf1 hf2 hPx hKx hDx
  rw [ht] at hPx
  have hKx := va_K.moved hvm.symm hKx
  have hDx := hDx.weaken (B := fun q : Nat => s.heap.size ≤ q) (fun k q _ z => hFc q.1 z)
  clear hP hD hFc
  generalize H1 = H at hPx hS ⊢
  refine lv_astore_n (lv' := [(1, .ref q0), (0, .ref b)]) hx hb dL_law_7 rfl hl (by decide) rfl (fun ls hl => ?_)
  refine va_new (ci := 5) (fs := [.int 0, .null, .int 0, .long 0, .long 0, .null, .null, .null, .null, .null, .int 0, .null, .int 0, .null, .int 0, .int 0, .int 0, .int 0, .int 0, .null, .null, .null, .int 0, .null, .null, .null, .null, .null, .null, .long 0]) (C := RX5) (T := TX5) (N := 30) hx hb htt inX5 tyX5 tyX5_ok hown (htt (.classLink RL 10 RX5) (by decide +kernel)) (htt (.instantiable RX5 30) (by decide +kernel)) (htt (.initialized RX5) (by decide +kernel)) hKx hPx hDx hS hA rfl (fun j hj => by rcases (show j = 0 ∨ j = 1 ∨ j = 2 ∨ j = 3 ∨ j = 4 ∨ j = 5 ∨ j = 6 ∨ j = 7 ∨ j = 8 ∨ j = 9 ∨ j = 10 ∨ j = 11 ∨ j = 12 ∨ j = 13 ∨ j = 14 ∨ j = 15 ∨ j = 16 ∨ j = 17 ∨ j = 18 ∨ j = 19 ∨ j = 20 ∨ j = 21 ∨ j = 22 ∨ j = 23 ∨ j = 24 ∨ j = 25 ∨ j = 26 ∨ j = 27 ∨ j = 28 ∨ j = 29 by omega) with rfl | rfl | rfl | rfl | rfl | rfl | rfl | rfl | rfl | rfl | rfl | rfl | rfl | rfl | rfl | rfl | rfl | rfl | rfl | rfl | rfl | rfl | rfl | rfl | rfl | rfl | rfl | rfl | rfl | rfl <;> rfl) (Nat.le_of_ble_eq_true rfl) (Nat.le_of_ble_eq_true rfl) dL_law_8 (fun qm H hP hD hS => ?_)
  have hPx := va_P_left hP
  have hPm := va_P_right hP
  have hDm := va_D_right hD
  refine lv_dup hx hb dL_law_11 rfl ?_
  have hFm : ∀ q, va_A [(qm, .inr (5, [.int 0, .null, .int 0, .long 0, .long 0, .null, .null, .null, .null, .null, .int 0, .null, .int 0, .null, .int 0, .int 0, .int 0, .int 0, .int 0, .null, .null, .null, .int 0, .null, .null, .null, .null, .null, .null, .long 0]))] H.size q → s.heap.size ≤ q := va_free hDm hS hA [0] rfl
  refine va_callv (va_runI (As := []) (rest := [.ref qm]) ⟨hx, hb, hml, hown, hts⟩ (kX5_init l D qm H.size) (cwI 0 hts gL_law_X5_init rfl rfl rfl (htt (.initialized RX5) (by decide +kernel)) (htt (.methodLink RL 12 yX5_init) (by decide +kernel)) (htt (.instanceMethod yX5_init) (by decide +kernel)) rfl (by decide +kernel) ⟨Nat.le_of_ble_eq_true rfl, Nat.le_of_ble_eq_true rfl⟩) ⟨fun a U g mk q => by obtain ⟨q0, q1, qP, qK, qD, qE⟩ := q; exact ⟨q0, q1, qP, va_K.moved (u := U) (U := U.calling g mk a) (Vm.Alike.refl U.vm) qK, qD, cE.call qE⟩, fun U hU hW => ⟨rfl, by rw [hU], by rw [hU]; exact hPm, va_K.moved hW.alike hK, hDm.weaken (fun _ _ _ _ => trivial), cE.warm hW hE⟩⟩ rfl rfl hl.1 rfl (lv_room (Nat.le_of_ble_eq_true rfl)) dL_law_12 ⟨Nat.le_of_ble_eq_true rfl, Nat.le_of_ble_eq_true rfl⟩) hS (fun q _ h => hFm q h) hFm (fun u t H1 locs ht hvm hw hB hz1 hk1 hS => ?_)
  obtain ⟨hM0, hKM, gM⟩ := u
  obtain ⟨hv0, hg0, hg1⟩ := hw
  obtain ⟨hPm, hKm, hDm1⟩ := hB
  dsimp only at hv0 hg0 hg1 hPm hKm hDm1
  rw [ht] at hPm
  have hKm := va_K.moved hvm.symm hKm
  have hap : ∀ k, k < wX.2.1 → hX0 k < H.size ∧ ¬ va_A [(qm, .inr (5, [.int 0, .null, .int 0, .long 0, .long 0, .null, .null, .null, .null, .null, .int 0, .null, .int 0, .null, .int 0, .int 0, .int 0, .int 0, .int 0, .null, .null, .null, .int 0, .null, .null, .null, .null, .null, .null, .long 0]))] H.size (hX0 k) := by
    intro k hk
    have h1 := wld_at (K := hKX) (h := hX0) (σ := sX0 fX) hk
    have hlt := (hPx k _ h1).lt
    refine ⟨hlt, fun z => ?_⟩
    rcases z with ⟨j, e9, hj⟩ | z
    · have hj0 : j < 1 := (List.getElem?_eq_some_iff.mp hj).1
      rw [show j = 0 by omega] at hj
      exact va_D_apart hD h1 hj rfl
    · have hlt : hX0 k < H.size := hlt
      omega
  have hPx1 : va_P D vwCl (wld wX hKX hX0 (sX0 fX)) H1 := hPx.kept (fun k q hk => by
    obtain ⟨hk9, rfl⟩ := wld_get hk
    exact hk1 _ (hap k hk9).1 (hap k hk9).2)
  have hdis : ∀ a b, a < wX.2.1 → b < wM.2.1 → hX0 a ≠ hM0 b := fun a b ha hb z => (hap a ha).2 (by rw [z]; exact hDm1.2 b _ (wld_at hb))
  have hDm2 := hDm1.weaken (B := fun q : Nat => s.heap.size ≤ q) (fun k q _ z => hFm q.1 z)
  refine lv_astore_n (lv' := [(2, .ref qm), (1, .ref q0), (0, .ref b)]) hx hb dL_law_15 rfl hl (by decide) rfl (fun ls hl => ?_)
  refine lv_iconst (v := 0) hx hb dL_law_16 (by decide) ?_
  refine lv_istore_n (lv' := [(3, .int 0), (2, .ref qm), (1, .ref q0), (0, .ref b)]) hx hb dL_law_17 rfl hl (by decide) rfl (fun ls hl => ?_)
  have hl : lv_has ls 4 [(0, .ref b), (1, .ref (hX0 0)), (2, .ref (hM0 0)), (3, .int 0)] := by rw [hu0, hv0]; exact lv_sub hl [3, 2, 1, 0] rfl
  exact law_loop (hX := hX0) (hM := hM0) (l0 := l) (D0 := D) (K0 := hKX) (K1 := hKM) (b := b) (L := L) (xs := xs) (Y := (p, l, e, s, m, #[Value.ref b], below, meth, c, lw_Z below #[Value.ref b] s, D, hKX, hKM, _, _)) hL ⟨hx, hb, hml, hown, hts, hKx, hKm, hZ, rfl, rfl, rfl, rfl, wld_D hDx, wld_D hDm2, hdis, hX, hbl, by decide, by decide, hr, hlocks, rfl, rfl⟩ O (L + 1) 0 0 (sX0 fX) (sM0 gM) (by omega) nI_0.symm (by omega) (R0 fX gM hf0 hf1 hf2 hg0 hg1) H1 locs ls hl hPx1 hPm hS
