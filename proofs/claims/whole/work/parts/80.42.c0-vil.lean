theorem bp_13 : (Int8.ofInt 13).toInt32 = (13 : Int32) := by decide
theorem sp_360 : (Int16.ofInt 360).toInt32 = (360 : Int32) := by decide
theorem sp_480 : (Int16.ofInt 480).toInt32 = (480 : Int32) := by decide
theorem sp_3328 : (Int16.ofInt 3328).toInt32 = (3328 : Int32) := by decide
/-! the constructors -/
theorem vp_cell_inl (c : ClassId) (n : Nat) (f : Nat → Int32) : vp_cell c (n, .inl f) = arrV c n (fun j => .int (f j)) := rfl
theorem in_arrV (c : ClassId) (n : Nat) (v : Value) : Jvm.Free.Multi.innerC c n v = arrV c n (fun _ => v) := by
  show ({ cls := c, slots := Array.replicate n v, vm := .none } : Cell) = _
  rw [arrV_new]
def ckX3 (h0 : Nat) (u : (Nat → Nat) × (Nat → ClassId) × (Nat → Nat → Int32)) : va_W := [(h0, .inr (3, [.int 0, .int 0, .int 0, .ref (u.1 0), .ref (u.1 1), .ref (u.1 2), .ref (u.1 3), .ref (u.1 4), .ref (u.1 5), .ref (u.1 6), .ref (u.1 7)])), ((u.1 0), .inl ((u.2.1 0), 6, .inl (fun _ => 0))), ((u.1 1), .inl ((u.2.1 1), 6, .inl (fun _ => 0))), ((u.1 2), .inl ((u.2.1 2), 6, .inl (fun _ => 0))), ((u.1 3), .inl ((u.2.1 3), 6, .inl (fun _ => 0))), ((u.1 4), .inl ((u.2.1 4), 8, .inl (fun _ => 0))), ((u.1 5), .inl ((u.2.1 5), 8, .inl (fun _ => 0))), ((u.1 6), .inl ((u.2.1 6), 8, .inl (fun _ => 0))), ((u.1 7), .inl ((u.2.1 7), 8, .inl (fun _ => 0)))]
def ctX3 (u : (Nat → Nat) × (Nat → ClassId) × (Nat → Nat → Int32)) : List (ClassId × FieldType) := [((u.2.1 0), .int), ((u.2.1 1), .int), ((u.2.1 2), .int), ((u.2.1 3), .int), ((u.2.1 4), .int), ((u.2.1 5), .int), ((u.2.1 6), .int), ((u.2.1 7), .int)]
theorem ci_X3_init_X3 : ∀ q ∈ u_ws RX3 TX3 11, q ∈ wsX3_init := by decide +kernel
theorem ck_X3_init_0 : (.methodLink RX3 3 objectInit : Cond) ∈ wsX3_init := by decide +kernel
theorem ck_X3_init_1 : (.instanceMethod objectInit : Cond) ∈ wsX3_init := by decide +kernel
theorem ck_X3_init_2 : (.code objectInit ⟨#[0xb1]⟩ 1 none : Cond) ∈ wsX3_init := by decide +kernel
theorem ck_X3_init_3 : (.fieldLink RX3 9 "EmptyHouse$Village" "people" "I" : Cond) ∈ wsX3_init := by decide +kernel
theorem ck_X3_init_4 : (.fieldLink RX3 15 "EmptyHouse$Village" "debts" "I" : Cond) ∈ wsX3_init := by decide +kernel
theorem ck_X3_init_5 : (.fieldLink RX3 18 "EmptyHouse$Village" "law" "I" : Cond) ∈ wsX3_init := by decide +kernel
theorem ck_X3_init_6 : (.arrayClass .int : Cond) ∈ wsX3_init := by decide +kernel
theorem ck_X3_init_7 : (.fieldLink RX3 21 "EmptyHouse$Village" "kind" "[I" : Cond) ∈ wsX3_init := by decide +kernel
theorem ck_X3_init_8 : (.fieldLink RX3 25 "EmptyHouse$Village" "mate" "[I" : Cond) ∈ wsX3_init := by decide +kernel
theorem ck_X3_init_9 : (.fieldLink RX3 28 "EmptyHouse$Village" "out" "[I" : Cond) ∈ wsX3_init := by decide +kernel
theorem ck_X3_init_10 : (.fieldLink RX3 31 "EmptyHouse$Village" "cards" "[I" : Cond) ∈ wsX3_init := by decide +kernel
theorem ck_X3_init_11 : (.fieldLink RX3 34 "EmptyHouse$Village" "debtor" "[I" : Cond) ∈ wsX3_init := by decide +kernel
theorem ck_X3_init_12 : (.fieldLink RX3 37 "EmptyHouse$Village" "creditor" "[I" : Cond) ∈ wsX3_init := by decide +kernel
theorem ck_X3_init_13 : (.fieldLink RX3 40 "EmptyHouse$Village" "value" "[I" : Cond) ∈ wsX3_init := by decide +kernel
theorem ck_X3_init_14 : (.fieldLink RX3 43 "EmptyHouse$Village" "interest" "[I" : Cond) ∈ wsX3_init := by decide +kernel
set_option maxHeartbeats 400000 in
set_option maxRecDepth 100000 in
theorem kX3_init (l : Launch) (D : va_G) (h0 : Nat) (sz : Nat) : Met l yX3_init wsX3_init ({ frames := 1, cells := 8, slots := 56, locals := 12 } : Room) (va_Pc [.ref h0] (fun U => U.heap.size = sz ∧ va_P D vwCl [(h0, .inr (3, [.int 0, .int 0, .int 0, .null, .null, .null, .null, .null, .null, .null, .null]))] U.heap ∧ va_K D vwCl [] U ∧ va_D (fun _ => True) [(h0, .inr (3, [.int 0, .int 0, .int 0, .null, .null, .null, .null, .null, .null, .null, .null]))] ∧ cE U)) (va_Qv (fun u : (Nat → Nat) × (Nat → ClassId) × (Nat → Nat → Int32) => True) (fun u t => va_P D vwCl (ckX3 h0 u) t.heap ∧ va_K D vwCl (ctX3 u) t ∧ va_D (va_A [(h0, .inr (3, [.int 0, .int 0, .int 0, .null, .null, .null, .null, .null, .null, .null, .null]))] sz) (ckX3 h0 u)) (va_A [(h0, .inr (3, [.int 0, .int 0, .int 0, .null, .null, .null, .null, .null, .null, .null, .null]))] sz)) 8 56 (va_A [(h0, .inr (3, [.int 0, .int 0, .int 0, .null, .null, .null, .null, .null, .null, .null, .null]))] sz) := by
  refine Met.ofW (cc := cX3_init) (maxL := 1) (ret := none) (by decide +kernel) rfl ?_
  intro p e s m args below meth c s₁ B hml hv
  obtain ⟨rfl, hsz, hP, hK, hD0, hE⟩ := hv
  have hx := B.exec
  have hb := B.bytes
  have hr := B.returns
  have hts := atoms_spec (ws := wsX3_init) B.pre
  have hown : s.vm.findClass RX3 = some m.cls := findClass_of_methodNamed B.named
  have hlocks := B.notSynchronized
  have hin : meth.name = "<init>" := (name_of_methodNamed B.named B.method).1
  subst hsz
  have hD := hD0.self (sz := s.heap.size)
  generalize hAe : va_A [(h0, .inr (3, [.int 0, .int 0, .int 0, .null, .null, .null, .null, .null, .null, .null, .null]))] s.heap.size = A at hD ⊢
  have hA : ∀ q : Nat, s.heap.size ≤ q → A q := fun q h => by rw [← hAe]; exact Or.inr h
  have hS : va_S A s.heap s.heap [] := va_S.rf
  have hP : va_P D vwCl [(h0, .inr (3, [.int 0, .int 0, .int 0, .null, .null, .null, .null, .null, .null, .null, .null]))] s.heap := hP
  have hl := lv_entry ([.ref h0]) (n := 1) (Nat.le_of_ble_eq_true rfl)
  rw [lg_entry_eq]
  generalize (lg_sl ([.ref h0]) ++ List.replicate (1 - (lg_sl ([.ref h0])).length) Slot.unset).toArray = ls at hl ⊢
  have hl : lv_has ls 1 [(0, .ref h0)] := hl
  refine lv_aload_n hx hb dX3_init_0 rfl (lv_at hl 0 rfl) ?_
  refine W.objInit hx hb hown (hts (.methodLink RX3 3 objectInit) ck_X3_init_0) (hts (.instanceMethod objectInit) ck_X3_init_1) (hts (.code objectInit ⟨#[0xb1]⟩ 1 none) ck_X3_init_2) rfl (by rw [hml]; exact hl.1) rfl dX3_init_1 (Nat.le_of_ble_eq_true rfl) (Nat.le_of_ble_eq_true rfl) ?_
  refine W.eq (g2 := F0 m 4 ls []) rfl ?_
  refine lv_aload_n hx hb dX3_init_4 rfl (lv_at hl 0 rfl) ?_
  refine lv_iconst hx hb dX3_init_5 ic_0 ?_
  refine va_put (D := D) (ci := 3) (v := .int (0 : Int32)) (ty := .int) (C := RX3) (T := TX3) (N := 11) hx hb hts ci_X3_init_X3 tyX3 tyX3_ok nmX3 hown hK hP hD hS 0 rfl rfl 0 (Nat.le_of_ble_eq_true rfl) (hts (.fieldLink RX3 9 "EmptyHouse$Village" "people" "I") ck_X3_init_3) (fun _ h9 => h9) rfl (by decide +kernel) rfl rfl (Nat.le_of_ble_eq_true rfl) dX3_init_6 (fun H locs hP hD hS => ?_)
  have hP : va_P D vwCl [(h0, .inr (3, [.int (0 : Int32), .int 0, .int 0, .null, .null, .null, .null, .null, .null, .null, .null]))] H := hP
  have hD : va_D A [(h0, .inr (3, [.int (0 : Int32), .int 0, .int 0, .null, .null, .null, .null, .null, .null, .null, .null]))] := hD
  refine lv_aload_n hx hb dX3_init_9 rfl (lv_at hl 0 rfl) ?_
  refine lv_iconst hx hb dX3_init_10 ic_0 ?_
  refine va_put (D := D) (ci := 3) (v := .int (0 : Int32)) (ty := .int) (C := RX3) (T := TX3) (N := 11) hx hb hts ci_X3_init_X3 tyX3 tyX3_ok nmX3 hown hK hP hD hS 0 rfl rfl 1 (Nat.le_of_ble_eq_true rfl) (hts (.fieldLink RX3 15 "EmptyHouse$Village" "debts" "I") ck_X3_init_4) (fun _ h9 => h9) rfl (by decide +kernel) rfl rfl (Nat.le_of_ble_eq_true rfl) dX3_init_11 (fun H locs hP hD hS => ?_)
  have hP : va_P D vwCl [(h0, .inr (3, [.int (0 : Int32), .int (0 : Int32), .int 0, .null, .null, .null, .null, .null, .null, .null, .null]))] H := hP
  have hD : va_D A [(h0, .inr (3, [.int (0 : Int32), .int (0 : Int32), .int 0, .null, .null, .null, .null, .null, .null, .null, .null]))] := hD
  refine lv_aload_n hx hb dX3_init_14 rfl (lv_at hl 0 rfl) ?_
  refine lv_iconst hx hb dX3_init_15 ic_0 ?_
  refine va_put (D := D) (ci := 3) (v := .int (0 : Int32)) (ty := .int) (C := RX3) (T := TX3) (N := 11) hx hb hts ci_X3_init_X3 tyX3 tyX3_ok nmX3 hown hK hP hD hS 0 rfl rfl 2 (Nat.le_of_ble_eq_true rfl) (hts (.fieldLink RX3 18 "EmptyHouse$Village" "law" "I") ck_X3_init_5) (fun _ h9 => h9) rfl (by decide +kernel) rfl rfl (Nat.le_of_ble_eq_true rfl) dX3_init_16 (fun H locs hP hD hS => ?_)
  have hP : va_P D vwCl [(h0, .inr (3, [.int (0 : Int32), .int (0 : Int32), .int (0 : Int32), .null, .null, .null, .null, .null, .null, .null, .null]))] H := hP
  have hD : va_D A [(h0, .inr (3, [.int (0 : Int32), .int (0 : Int32), .int (0 : Int32), .null, .null, .null, .null, .null, .null, .null, .null]))] := hD
  refine lv_aload_n hx hb dX3_init_19 rfl (lv_at hl 0 rfl) ?_
  refine lv_bipush hx hb dX3_init_20 bp_6 ?_
  refine va_newa (atype := .int) (ty := .int) (N' := 6) (a0 := (6, .inl (fun _ => 0))) hx hb (hts (.arrayClass .int) ck_X3_init_6) rfl hK hP hD hS hA (fun _ => rfl) (by decide) (by decide) (by decide) (Nat.le_of_ble_eq_true rfl) (Nat.le_of_ble_eq_true rfl) dX3_init_22 (fun q1 c2 H hK hP hD hS => ?_)
  have hP : va_P D vwCl [(h0, .inr (3, [.int (0 : Int32), .int (0 : Int32), .int (0 : Int32), .null, .null, .null, .null, .null, .null, .null, .null])), (q1, .inl (c2, 6, .inl (fun _ => 0)))] H := hP
  have hD : va_D A [(h0, .inr (3, [.int (0 : Int32), .int (0 : Int32), .int (0 : Int32), .null, .null, .null, .null, .null, .null, .null, .null])), (q1, .inl (c2, 6, .inl (fun _ => 0)))] := hD
  have hK : va_K D vwCl [(c2, .int)] s := hK
  refine va_putF (D := D) (ci := 3) (v := .ref q1) (ty := .array .int) (C := RX3) (T := TX3) (N := 11) hx hb hts ci_X3_init_X3 tyX3 tyX3_ok nmX3 hown hK hP hD hS 0 rfl rfl 3 (Nat.le_of_ble_eq_true rfl) (hts (.fieldLink RX3 21 "EmptyHouse$Village" "kind" "[I") ck_X3_init_7) (fun _ h9 => h9) rfl hin rfl (by decide +kernel) rfl rfl (Nat.le_of_ble_eq_true rfl) dX3_init_24 (fun H locs hP hD hS => ?_)
  have hP : va_P D vwCl [(h0, .inr (3, [.int (0 : Int32), .int (0 : Int32), .int (0 : Int32), .ref q1, .null, .null, .null, .null, .null, .null, .null])), (q1, .inl (c2, 6, .inl (fun _ => 0)))] H := hP
  have hD : va_D A [(h0, .inr (3, [.int (0 : Int32), .int (0 : Int32), .int (0 : Int32), .ref q1, .null, .null, .null, .null, .null, .null, .null])), (q1, .inl (c2, 6, .inl (fun _ => 0)))] := hD
  refine lv_aload_n hx hb dX3_init_27 rfl (lv_at hl 0 rfl) ?_
  refine lv_bipush hx hb dX3_init_28 bp_6 ?_
  refine va_newa (atype := .int) (ty := .int) (N' := 6) (a0 := (6, .inl (fun _ => 0))) hx hb (hts (.arrayClass .int) ck_X3_init_6) rfl hK hP hD hS hA (fun _ => rfl) (by decide) (by decide) (by decide) (Nat.le_of_ble_eq_true rfl) (Nat.le_of_ble_eq_true rfl) dX3_init_30 (fun q3 c4 H hK hP hD hS => ?_)
  have hP : va_P D vwCl [(h0, .inr (3, [.int (0 : Int32), .int (0 : Int32), .int (0 : Int32), .ref q1, .null, .null, .null, .null, .null, .null, .null])), (q1, .inl (c2, 6, .inl (fun _ => 0))), (q3, .inl (c4, 6, .inl (fun _ => 0)))] H := hP
  have hD : va_D A [(h0, .inr (3, [.int (0 : Int32), .int (0 : Int32), .int (0 : Int32), .ref q1, .null, .null, .null, .null, .null, .null, .null])), (q1, .inl (c2, 6, .inl (fun _ => 0))), (q3, .inl (c4, 6, .inl (fun _ => 0)))] := hD
  have hK : va_K D vwCl [(c2, .int), (c4, .int)] s := hK
  refine va_putF (D := D) (ci := 3) (v := .ref q3) (ty := .array .int) (C := RX3) (T := TX3) (N := 11) hx hb hts ci_X3_init_X3 tyX3 tyX3_ok nmX3 hown hK hP hD hS 0 rfl rfl 4 (Nat.le_of_ble_eq_true rfl) (hts (.fieldLink RX3 25 "EmptyHouse$Village" "mate" "[I") ck_X3_init_8) (fun _ h9 => h9) rfl hin rfl (by decide +kernel) rfl rfl (Nat.le_of_ble_eq_true rfl) dX3_init_32 (fun H locs hP hD hS => ?_)
  have hP : va_P D vwCl [(h0, .inr (3, [.int (0 : Int32), .int (0 : Int32), .int (0 : Int32), .ref q1, .ref q3, .null, .null, .null, .null, .null, .null])), (q1, .inl (c2, 6, .inl (fun _ => 0))), (q3, .inl (c4, 6, .inl (fun _ => 0)))] H := hP
  have hD : va_D A [(h0, .inr (3, [.int (0 : Int32), .int (0 : Int32), .int (0 : Int32), .ref q1, .ref q3, .null, .null, .null, .null, .null, .null])), (q1, .inl (c2, 6, .inl (fun _ => 0))), (q3, .inl (c4, 6, .inl (fun _ => 0)))] := hD
  refine lv_aload_n hx hb dX3_init_35 rfl (lv_at hl 0 rfl) ?_
  refine lv_bipush hx hb dX3_init_36 bp_6 ?_
  refine va_newa (atype := .int) (ty := .int) (N' := 6) (a0 := (6, .inl (fun _ => 0))) hx hb (hts (.arrayClass .int) ck_X3_init_6) rfl hK hP hD hS hA (fun _ => rfl) (by decide) (by decide) (by decide) (Nat.le_of_ble_eq_true rfl) (Nat.le_of_ble_eq_true rfl) dX3_init_38 (fun q5 c6 H hK hP hD hS => ?_)
  have hP : va_P D vwCl [(h0, .inr (3, [.int (0 : Int32), .int (0 : Int32), .int (0 : Int32), .ref q1, .ref q3, .null, .null, .null, .null, .null, .null])), (q1, .inl (c2, 6, .inl (fun _ => 0))), (q3, .inl (c4, 6, .inl (fun _ => 0))), (q5, .inl (c6, 6, .inl (fun _ => 0)))] H := hP
  have hD : va_D A [(h0, .inr (3, [.int (0 : Int32), .int (0 : Int32), .int (0 : Int32), .ref q1, .ref q3, .null, .null, .null, .null, .null, .null])), (q1, .inl (c2, 6, .inl (fun _ => 0))), (q3, .inl (c4, 6, .inl (fun _ => 0))), (q5, .inl (c6, 6, .inl (fun _ => 0)))] := hD
  have hK : va_K D vwCl [(c2, .int), (c4, .int), (c6, .int)] s := hK
  refine va_putF (D := D) (ci := 3) (v := .ref q5) (ty := .array .int) (C := RX3) (T := TX3) (N := 11) hx hb hts ci_X3_init_X3 tyX3 tyX3_ok nmX3 hown hK hP hD hS 0 rfl rfl 5 (Nat.le_of_ble_eq_true rfl) (hts (.fieldLink RX3 28 "EmptyHouse$Village" "out" "[I") ck_X3_init_9) (fun _ h9 => h9) rfl hin rfl (by decide +kernel) rfl rfl (Nat.le_of_ble_eq_true rfl) dX3_init_40 (fun H locs hP hD hS => ?_)
  have hP : va_P D vwCl [(h0, .inr (3, [.int (0 : Int32), .int (0 : Int32), .int (0 : Int32), .ref q1, .ref q3, .ref q5, .null, .null, .null, .null, .null])), (q1, .inl (c2, 6, .inl (fun _ => 0))), (q3, .inl (c4, 6, .inl (fun _ => 0))), (q5, .inl (c6, 6, .inl (fun _ => 0)))] H := hP
  have hD : va_D A [(h0, .inr (3, [.int (0 : Int32), .int (0 : Int32), .int (0 : Int32), .ref q1, .ref q3, .ref q5, .null, .null, .null, .null, .null])), (q1, .inl (c2, 6, .inl (fun _ => 0))), (q3, .inl (c4, 6, .inl (fun _ => 0))), (q5, .inl (c6, 6, .inl (fun _ => 0)))] := hD
  refine lv_aload_n hx hb dX3_init_43 rfl (lv_at hl 0 rfl) ?_
  refine lv_bipush hx hb dX3_init_44 bp_6 ?_
  refine va_newa (atype := .int) (ty := .int) (N' := 6) (a0 := (6, .inl (fun _ => 0))) hx hb (hts (.arrayClass .int) ck_X3_init_6) rfl hK hP hD hS hA (fun _ => rfl) (by decide) (by decide) (by decide) (Nat.le_of_ble_eq_true rfl) (Nat.le_of_ble_eq_true rfl) dX3_init_46 (fun q7 c8 H hK hP hD hS => ?_)
  have hP : va_P D vwCl [(h0, .inr (3, [.int (0 : Int32), .int (0 : Int32), .int (0 : Int32), .ref q1, .ref q3, .ref q5, .null, .null, .null, .null, .null])), (q1, .inl (c2, 6, .inl (fun _ => 0))), (q3, .inl (c4, 6, .inl (fun _ => 0))), (q5, .inl (c6, 6, .inl (fun _ => 0))), (q7, .inl (c8, 6, .inl (fun _ => 0)))] H := hP
  have hD : va_D A [(h0, .inr (3, [.int (0 : Int32), .int (0 : Int32), .int (0 : Int32), .ref q1, .ref q3, .ref q5, .null, .null, .null, .null, .null])), (q1, .inl (c2, 6, .inl (fun _ => 0))), (q3, .inl (c4, 6, .inl (fun _ => 0))), (q5, .inl (c6, 6, .inl (fun _ => 0))), (q7, .inl (c8, 6, .inl (fun _ => 0)))] := hD
  have hK : va_K D vwCl [(c2, .int), (c4, .int), (c6, .int), (c8, .int)] s := hK
  refine va_putF (D := D) (ci := 3) (v := .ref q7) (ty := .array .int) (C := RX3) (T := TX3) (N := 11) hx hb hts ci_X3_init_X3 tyX3 tyX3_ok nmX3 hown hK hP hD hS 0 rfl rfl 6 (Nat.le_of_ble_eq_true rfl) (hts (.fieldLink RX3 31 "EmptyHouse$Village" "cards" "[I") ck_X3_init_10) (fun _ h9 => h9) rfl hin rfl (by decide +kernel) rfl rfl (Nat.le_of_ble_eq_true rfl) dX3_init_48 (fun H locs hP hD hS => ?_)
  have hP : va_P D vwCl [(h0, .inr (3, [.int (0 : Int32), .int (0 : Int32), .int (0 : Int32), .ref q1, .ref q3, .ref q5, .ref q7, .null, .null, .null, .null])), (q1, .inl (c2, 6, .inl (fun _ => 0))), (q3, .inl (c4, 6, .inl (fun _ => 0))), (q5, .inl (c6, 6, .inl (fun _ => 0))), (q7, .inl (c8, 6, .inl (fun _ => 0)))] H := hP
  have hD : va_D A [(h0, .inr (3, [.int (0 : Int32), .int (0 : Int32), .int (0 : Int32), .ref q1, .ref q3, .ref q5, .ref q7, .null, .null, .null, .null])), (q1, .inl (c2, 6, .inl (fun _ => 0))), (q3, .inl (c4, 6, .inl (fun _ => 0))), (q5, .inl (c6, 6, .inl (fun _ => 0))), (q7, .inl (c8, 6, .inl (fun _ => 0)))] := hD
  refine lv_aload_n hx hb dX3_init_51 rfl (lv_at hl 0 rfl) ?_
  refine lv_bipush hx hb dX3_init_52 bp_8 ?_
  refine va_newa (atype := .int) (ty := .int) (N' := 8) (a0 := (8, .inl (fun _ => 0))) hx hb (hts (.arrayClass .int) ck_X3_init_6) rfl hK hP hD hS hA (fun _ => rfl) (by decide) (by decide) (by decide) (Nat.le_of_ble_eq_true rfl) (Nat.le_of_ble_eq_true rfl) dX3_init_54 (fun q9 c10 H hK hP hD hS => ?_)
  have hP : va_P D vwCl [(h0, .inr (3, [.int (0 : Int32), .int (0 : Int32), .int (0 : Int32), .ref q1, .ref q3, .ref q5, .ref q7, .null, .null, .null, .null])), (q1, .inl (c2, 6, .inl (fun _ => 0))), (q3, .inl (c4, 6, .inl (fun _ => 0))), (q5, .inl (c6, 6, .inl (fun _ => 0))), (q7, .inl (c8, 6, .inl (fun _ => 0))), (q9, .inl (c10, 8, .inl (fun _ => 0)))] H := hP
  have hD : va_D A [(h0, .inr (3, [.int (0 : Int32), .int (0 : Int32), .int (0 : Int32), .ref q1, .ref q3, .ref q5, .ref q7, .null, .null, .null, .null])), (q1, .inl (c2, 6, .inl (fun _ => 0))), (q3, .inl (c4, 6, .inl (fun _ => 0))), (q5, .inl (c6, 6, .inl (fun _ => 0))), (q7, .inl (c8, 6, .inl (fun _ => 0))), (q9, .inl (c10, 8, .inl (fun _ => 0)))] := hD
  have hK : va_K D vwCl [(c2, .int), (c4, .int), (c6, .int), (c8, .int), (c10, .int)] s := hK
  refine va_putF (D := D) (ci := 3) (v := .ref q9) (ty := .array .int) (C := RX3) (T := TX3) (N := 11) hx hb hts ci_X3_init_X3 tyX3 tyX3_ok nmX3 hown hK hP hD hS 0 rfl rfl 7 (Nat.le_of_ble_eq_true rfl) (hts (.fieldLink RX3 34 "EmptyHouse$Village" "debtor" "[I") ck_X3_init_11) (fun _ h9 => h9) rfl hin rfl (by decide +kernel) rfl rfl (Nat.le_of_ble_eq_true rfl) dX3_init_56 (fun H locs hP hD hS => ?_)
  have hP : va_P D vwCl [(h0, .inr (3, [.int (0 : Int32), .int (0 : Int32), .int (0 : Int32), .ref q1, .ref q3, .ref q5, .ref q7, .ref q9, .null, .null, .null])), (q1, .inl (c2, 6, .inl (fun _ => 0))), (q3, .inl (c4, 6, .inl (fun _ => 0))), (q5, .inl (c6, 6, .inl (fun _ => 0))), (q7, .inl (c8, 6, .inl (fun _ => 0))), (q9, .inl (c10, 8, .inl (fun _ => 0)))] H := hP
  have hD : va_D A [(h0, .inr (3, [.int (0 : Int32), .int (0 : Int32), .int (0 : Int32), .ref q1, .ref q3, .ref q5, .ref q7, .ref q9, .null, .null, .null])), (q1, .inl (c2, 6, .inl (fun _ => 0))), (q3, .inl (c4, 6, .inl (fun _ => 0))), (q5, .inl (c6, 6, .inl (fun _ => 0))), (q7, .inl (c8, 6, .inl (fun _ => 0))), (q9, .inl (c10, 8, .inl (fun _ => 0)))] := hD
  refine lv_aload_n hx hb dX3_init_59 rfl (lv_at hl 0 rfl) ?_
  refine lv_bipush hx hb dX3_init_60 bp_8 ?_
  refine va_newa (atype := .int) (ty := .int) (N' := 8) (a0 := (8, .inl (fun _ => 0))) hx hb (hts (.arrayClass .int) ck_X3_init_6) rfl hK hP hD hS hA (fun _ => rfl) (by decide) (by decide) (by decide) (Nat.le_of_ble_eq_true rfl) (Nat.le_of_ble_eq_true rfl) dX3_init_62 (fun q11 c12 H hK hP hD hS => ?_)
  have hP : va_P D vwCl [(h0, .inr (3, [.int (0 : Int32), .int (0 : Int32), .int (0 : Int32), .ref q1, .ref q3, .ref q5, .ref q7, .ref q9, .null, .null, .null])), (q1, .inl (c2, 6, .inl (fun _ => 0))), (q3, .inl (c4, 6, .inl (fun _ => 0))), (q5, .inl (c6, 6, .inl (fun _ => 0))), (q7, .inl (c8, 6, .inl (fun _ => 0))), (q9, .inl (c10, 8, .inl (fun _ => 0))), (q11, .inl (c12, 8, .inl (fun _ => 0)))] H := hP
  have hD : va_D A [(h0, .inr (3, [.int (0 : Int32), .int (0 : Int32), .int (0 : Int32), .ref q1, .ref q3, .ref q5, .ref q7, .ref q9, .null, .null, .null])), (q1, .inl (c2, 6, .inl (fun _ => 0))), (q3, .inl (c4, 6, .inl (fun _ => 0))), (q5, .inl (c6, 6, .inl (fun _ => 0))), (q7, .inl (c8, 6, .inl (fun _ => 0))), (q9, .inl (c10, 8, .inl (fun _ => 0))), (q11, .inl (c12, 8, .inl (fun _ => 0)))] := hD
  have hK : va_K D vwCl [(c2, .int), (c4, .int), (c6, .int), (c8, .int), (c10, .int), (c12, .int)] s := hK
  refine va_putF (D := D) (ci := 3) (v := .ref q11) (ty := .array .int) (C := RX3) (T := TX3) (N := 11) hx hb hts ci_X3_init_X3 tyX3 tyX3_ok nmX3 hown hK hP hD hS 0 rfl rfl 8 (Nat.le_of_ble_eq_true rfl) (hts (.fieldLink RX3 37 "EmptyHouse$Village" "creditor" "[I") ck_X3_init_12) (fun _ h9 => h9) rfl hin rfl (by decide +kernel) rfl rfl (Nat.le_of_ble_eq_true rfl) dX3_init_64 (fun H locs hP hD hS => ?_)
  have hP : va_P D vwCl [(h0, .inr (3, [.int (0 : Int32), .int (0 : Int32), .int (0 : Int32), .ref q1, .ref q3, .ref q5, .ref q7, .ref q9, .ref q11, .null, .null])), (q1, .inl (c2, 6, .inl (fun _ => 0))), (q3, .inl (c4, 6, .inl (fun _ => 0))), (q5, .inl (c6, 6, .inl (fun _ => 0))), (q7, .inl (c8, 6, .inl (fun _ => 0))), (q9, .inl (c10, 8, .inl (fun _ => 0))), (q11, .inl (c12, 8, .inl (fun _ => 0)))] H := hP
  have hD : va_D A [(h0, .inr (3, [.int (0 : Int32), .int (0 : Int32), .int (0 : Int32), .ref q1, .ref q3, .ref q5, .ref q7, .ref q9, .ref q11, .null, .null])), (q1, .inl (c2, 6, .inl (fun _ => 0))), (q3, .inl (c4, 6, .inl (fun _ => 0))), (q5, .inl (c6, 6, .inl (fun _ => 0))), (q7, .inl (c8, 6, .inl (fun _ => 0))), (q9, .inl (c10, 8, .inl (fun _ => 0))), (q11, .inl (c12, 8, .inl (fun _ => 0)))] := hD
  refine lv_aload_n hx hb dX3_init_67 rfl (lv_at hl 0 rfl) ?_
  refine lv_bipush hx hb dX3_init_68 bp_8 ?_
  refine va_newa (atype := .int) (ty := .int) (N' := 8) (a0 := (8, .inl (fun _ => 0))) hx hb (hts (.arrayClass .int) ck_X3_init_6) rfl hK hP hD hS hA (fun _ => rfl) (by decide) (by decide) (by decide) (Nat.le_of_ble_eq_true rfl) (Nat.le_of_ble_eq_true rfl) dX3_init_70 (fun q13 c14 H hK hP hD hS => ?_)
  have hP : va_P D vwCl [(h0, .inr (3, [.int (0 : Int32), .int (0 : Int32), .int (0 : Int32), .ref q1, .ref q3, .ref q5, .ref q7, .ref q9, .ref q11, .null, .null])), (q1, .inl (c2, 6, .inl (fun _ => 0))), (q3, .inl (c4, 6, .inl (fun _ => 0))), (q5, .inl (c6, 6, .inl (fun _ => 0))), (q7, .inl (c8, 6, .inl (fun _ => 0))), (q9, .inl (c10, 8, .inl (fun _ => 0))), (q11, .inl (c12, 8, .inl (fun _ => 0))), (q13, .inl (c14, 8, .inl (fun _ => 0)))] H := hP
  have hD : va_D A [(h0, .inr (3, [.int (0 : Int32), .int (0 : Int32), .int (0 : Int32), .ref q1, .ref q3, .ref q5, .ref q7, .ref q9, .ref q11, .null, .null])), (q1, .inl (c2, 6, .inl (fun _ => 0))), (q3, .inl (c4, 6, .inl (fun _ => 0))), (q5, .inl (c6, 6, .inl (fun _ => 0))), (q7, .inl (c8, 6, .inl (fun _ => 0))), (q9, .inl (c10, 8, .inl (fun _ => 0))), (q11, .inl (c12, 8, .inl (fun _ => 0))), (q13, .inl (c14, 8, .inl (fun _ => 0)))] := hD
  have hK : va_K D vwCl [(c2, .int), (c4, .int), (c6, .int), (c8, .int), (c10, .int), (c12, .int), (c14, .int)] s := hK
  refine va_putF (D := D) (ci := 3) (v := .ref q13) (ty := .array .int) (C := RX3) (T := TX3) (N := 11) hx hb hts ci_X3_init_X3 tyX3 tyX3_ok nmX3 hown hK hP hD hS 0 rfl rfl 9 (Nat.le_of_ble_eq_true rfl) (hts (.fieldLink RX3 40 "EmptyHouse$Village" "value" "[I") ck_X3_init_13) (fun _ h9 => h9) rfl hin rfl (by decide +kernel) rfl rfl (Nat.le_of_ble_eq_true rfl) dX3_init_72 (fun H locs hP hD hS => ?_)
  have hP : va_P D vwCl [(h0, .inr (3, [.int (0 : Int32), .int (0 : Int32), .int (0 : Int32), .ref q1, .ref q3, .ref q5, .ref q7, .ref q9, .ref q11, .ref q13, .null])), (q1, .inl (c2, 6, .inl (fun _ => 0))), (q3, .inl (c4, 6, .inl (fun _ => 0))), (q5, .inl (c6, 6, .inl (fun _ => 0))), (q7, .inl (c8, 6, .inl (fun _ => 0))), (q9, .inl (c10, 8, .inl (fun _ => 0))), (q11, .inl (c12, 8, .inl (fun _ => 0))), (q13, .inl (c14, 8, .inl (fun _ => 0)))] H := hP
  have hD : va_D A [(h0, .inr (3, [.int (0 : Int32), .int (0 : Int32), .int (0 : Int32), .ref q1, .ref q3, .ref q5, .ref q7, .ref q9, .ref q11, .ref q13, .null])), (q1, .inl (c2, 6, .inl (fun _ => 0))), (q3, .inl (c4, 6, .inl (fun _ => 0))), (q5, .inl (c6, 6, .inl (fun _ => 0))), (q7, .inl (c8, 6, .inl (fun _ => 0))), (q9, .inl (c10, 8, .inl (fun _ => 0))), (q11, .inl (c12, 8, .inl (fun _ => 0))), (q13, .inl (c14, 8, .inl (fun _ => 0)))] := hD
  refine lv_aload_n hx hb dX3_init_75 rfl (lv_at hl 0 rfl) ?_
  refine lv_bipush hx hb dX3_init_76 bp_8 ?_
  refine va_newa (atype := .int) (ty := .int) (N' := 8) (a0 := (8, .inl (fun _ => 0))) hx hb (hts (.arrayClass .int) ck_X3_init_6) rfl hK hP hD hS hA (fun _ => rfl) (by decide) (by decide) (by decide) (Nat.le_of_ble_eq_true rfl) (Nat.le_of_ble_eq_true rfl) dX3_init_78 (fun q15 c16 H hK hP hD hS => ?_)
  have hP : va_P D vwCl [(h0, .inr (3, [.int (0 : Int32), .int (0 : Int32), .int (0 : Int32), .ref q1, .ref q3, .ref q5, .ref q7, .ref q9, .ref q11, .ref q13, .null])), (q1, .inl (c2, 6, .inl (fun _ => 0))), (q3, .inl (c4, 6, .inl (fun _ => 0))), (q5, .inl (c6, 6, .inl (fun _ => 0))), (q7, .inl (c8, 6, .inl (fun _ => 0))), (q9, .inl (c10, 8, .inl (fun _ => 0))), (q11, .inl (c12, 8, .inl (fun _ => 0))), (q13, .inl (c14, 8, .inl (fun _ => 0))), (q15, .inl (c16, 8, .inl (fun _ => 0)))] H := hP
  have hD : va_D A [(h0, .inr (3, [.int (0 : Int32), .int (0 : Int32), .int (0 : Int32), .ref q1, .ref q3, .ref q5, .ref q7, .ref q9, .ref q11, .ref q13, .null])), (q1, .inl (c2, 6, .inl (fun _ => 0))), (q3, .inl (c4, 6, .inl (fun _ => 0))), (q5, .inl (c6, 6, .inl (fun _ => 0))), (q7, .inl (c8, 6, .inl (fun _ => 0))), (q9, .inl (c10, 8, .inl (fun _ => 0))), (q11, .inl (c12, 8, .inl (fun _ => 0))), (q13, .inl (c14, 8, .inl (fun _ => 0))), (q15, .inl (c16, 8, .inl (fun _ => 0)))] := hD
  have hK : va_K D vwCl [(c2, .int), (c4, .int), (c6, .int), (c8, .int), (c10, .int), (c12, .int), (c14, .int), (c16, .int)] s := hK
  refine va_putF (D := D) (ci := 3) (v := .ref q15) (ty := .array .int) (C := RX3) (T := TX3) (N := 11) hx hb hts ci_X3_init_X3 tyX3 tyX3_ok nmX3 hown hK hP hD hS 0 rfl rfl 10 (Nat.le_of_ble_eq_true rfl) (hts (.fieldLink RX3 43 "EmptyHouse$Village" "interest" "[I") ck_X3_init_14) (fun _ h9 => h9) rfl hin rfl (by decide +kernel) rfl rfl (Nat.le_of_ble_eq_true rfl) dX3_init_80 (fun H locs hP hD hS => ?_)
  have hP : va_P D vwCl [(h0, .inr (3, [.int (0 : Int32), .int (0 : Int32), .int (0 : Int32), .ref q1, .ref q3, .ref q5, .ref q7, .ref q9, .ref q11, .ref q13, .ref q15])), (q1, .inl (c2, 6, .inl (fun _ => 0))), (q3, .inl (c4, 6, .inl (fun _ => 0))), (q5, .inl (c6, 6, .inl (fun _ => 0))), (q7, .inl (c8, 6, .inl (fun _ => 0))), (q9, .inl (c10, 8, .inl (fun _ => 0))), (q11, .inl (c12, 8, .inl (fun _ => 0))), (q13, .inl (c14, 8, .inl (fun _ => 0))), (q15, .inl (c16, 8, .inl (fun _ => 0)))] H := hP
  have hD : va_D A [(h0, .inr (3, [.int (0 : Int32), .int (0 : Int32), .int (0 : Int32), .ref q1, .ref q3, .ref q5, .ref q7, .ref q9, .ref q11, .ref q13, .ref q15])), (q1, .inl (c2, 6, .inl (fun _ => 0))), (q3, .inl (c4, 6, .inl (fun _ => 0))), (q5, .inl (c6, 6, .inl (fun _ => 0))), (q7, .inl (c8, 6, .inl (fun _ => 0))), (q9, .inl (c10, 8, .inl (fun _ => 0))), (q11, .inl (c12, 8, .inl (fun _ => 0))), (q13, .inl (c14, 8, .inl (fun _ => 0))), (q15, .inl (c16, 8, .inl (fun _ => 0)))] := hD
  have hP9 : va_P D vwCl (ckX3 h0 ((fun i => [q1, q3, q5, q7, q9, q11, q13, q15].getD i 0), (fun i => [c2, c4, c6, c8, c10, c12, c14, c16].getD i 0), (fun i => [].getD i (fun _ => 0)))) H := hP.sub [0, 1, 2, 3, 4, 5, 6, 7, 8] rfl
  have hD9 : va_D A (ckX3 h0 ((fun i => [q1, q3, q5, q7, q9, q11, q13, q15].getD i 0), (fun i => [c2, c4, c6, c8, c10, c12, c14, c16].getD i 0), (fun i => [].getD i (fun _ => 0)))) := hD.sub [0, 1, 2, 3, 4, 5, 6, 7, 8] (by decide) rfl
  have hK9 : va_K D vwCl (ctX3 ((fun i => [q1, q3, q5, q7, q9, q11, q13, q15].getD i 0), (fun i => [c2, c4, c6, c8, c10, c12, c14, c16].getD i 0), (fun i => [].getD i (fun _ => 0)))) s := hK.sub [0, 1, 2, 3, 4, 5, 6, 7] rfl
  refine W.widen (k := 8) (n := 56) (by decide) (by decide) ?_
  exact W.vret hx hb hr (fun t ht hW => ⟨⟨((fun i => [q1, q3, q5, q7, q9, q11, q13, q15].getD i 0), (fun i => [c2, c4, c6, c8, c10, c12, c14, c16].getD i 0), (fun i => [].getD i (fun _ => 0))), rfl, trivial, by rw [ht]; exact hP9, va_K.moved hW.alike hK9, hD9⟩, hS.F ht⟩) hS.2.2 dX3_init_83
