/-! calls, returns, and a method's contract out of its body -/
theorem pZ_kept {w : pW} {A B : Nat → Prop} {s U : State} {H : Heap} {locs : List Loc} (hZ : pZ w A s s.heap) (hS : va_S A s.heap H locs) (hvm : s.vm.Alike U.vm) (hB : ∀ q, B q → A q) : pZ w B U H := by
  intro hw
  obtain ⟨t, h1, h2⟩ := hZ hw
  exact ⟨t, (va_Z.moved hvm (h1.kept (fun a ha hn => hS.2.1 a ha hn))).narrow hB, (va_T.moved hvm (h2.kept (fun a ha hn => hS.2.1 a ha hn))).narrow hB⟩
theorem pIn_blind {w : pW} {D : va_G} {K : Nat → ClassId} {h : Nat → Nat} {σ : pS} {av : List Value} : FrameBlind (va_Pc av (pIn w D K h σ)) := by
  intro a U g mk q
  obtain ⟨q0, qP, qK, qD, qZ⟩ := q
  refine ⟨q0, qP, va_K.moved (u := U) (U := U.calling g mk a) (Vm.Alike.refl U.vm) qK, qD, fun hw => ?_⟩
  obtain ⟨t, h1, h2⟩ := qZ hw
  exact ⟨t, va_Z.moved (u := U) (U := U.calling g mk a) (Vm.Alike.refl U.vm) h1, va_T.moved (u := U) (U := U.calling g mk a) (Vm.Alike.refl U.vm) h2⟩
theorem pIn_call {w : pW} {D : va_G} {K : Nat → ClassId} {h : Nat → Nat} {σ : pS} {av : List Value} {A : Nat → Prop} {s : State} {H : Heap} {locs : List Loc} (hP : va_P D vwCl (wld w K h σ) H) (hD : va_D A (wld w K h σ)) (hK : va_K D vwCl (wty w K) s) (hZ : pZ w A s s.heap) (hS : va_S A s.heap H locs) (hA : ∀ q, pA w h q → A q) : ∀ U : State, U.heap = H → s.WarmedH U.vm → va_Pc av (pIn w D K h σ) av.toArray U :=
  fun U hU hW => ⟨rfl, by rw [hU]; exact hP, va_K.moved hW.alike hK, hD.weaken (fun _ _ _ _ => trivial), by rw [hU]; exact pZ_kept hZ hS hW.alike hA⟩
section GC
variable {w : pW} {h : Nat → Nat} {X : Cx} {l0 : Launch} {R0 : Room} {D0 : va_G} {K0 : Nat → ClassId} {cc : ByteArray} {n0 : Nat} {own : String} {Ts : List Cond} {pc : Nat} {lv : List (Nat × Value)} {st rest : List Value} {σ u1 : pS}
variable {y : MethodName} {bytes : ByteArray} {maxL n index : Nat} {ret : Option FieldType} {ws ws' : List Cond} {rm : Room} {Cn : String} {T : u_T} {Nf ci b : Nat} {ks : List Nat} {As : List Value}
theorem g_callVi {r1 : Int32} (C : Cok w h X l0 R0 D0 K0 cc n0 own Ts) (hM : Met l0 y ws rm (va_Pc (.ref (h b) :: As) (pIn w D0 K0 h σ)) (va_Qi (fun r' u' => r' = r1 ∧ u' = u1) (pOut w D0 K0 h) (pA w h)) 0 0 (pA w h)) (hG : GoodIn Ts (wsV own index Cn y ws)) (hw : ws = Cond.code y bytes maxL ret :: ws') (hrc : rm.cells = 0) (hrs : rm.slots = 0) (hdd : y.cls = Cn ∧ y.cls ≠ "java/lang/invoke/MethodHandle" ∧ y.cls ≠ "java/lang/invoke/VarHandle" ∧ (parseMethodDescriptor y.desc).map (fun d => d.parameters.length) = some n) (hR : rm.frames + 1 ≤ R0.frames ∧ 8 + (maxL + 11) + rm.locals ≤ R0.locals) (he : w.1 b = .inl (ci, ks)) (hN : b < w.2.1) (hc : vwCl[ci]? = some (Cn, T, Nf)) (hlen : As.length = n) (hst : st = As.reverse ++ .ref (h b) :: rest) (hcat : (rest.map fun v => v.category).sum ≤ 8) (hd : decode cc pc = .ok (.invokevirtual index, 3)) (kk : G w h X (pc + 3) lv (.int r1 :: rest) u1) : G w h X pc lv st σ := by
  obtain ⟨p, l, e, R, s, m, args, below, meth, c, Q, A, D, K, nL⟩ := X
  obtain ⟨hx, hb, hml, hown, hts, hK, hZ, rfl, rfl, rfl, rfl, rfl, hA⟩ := C
  intro H locs ls hl hP hD hS
  have hcell : (wld w K h σ)[b]? = some (h b, .inr (ci, pobj h σ b ks)) := by rw [wld_at hN, pcell, he]
  refine va_calli (va_runV (As := As) (rest := rest) ⟨hx, hb, hml, hown, hts⟩ hM (cwV n hts hG hw hrc hrs hdd hR) ⟨pIn_blind, va_recv hK hP hc hcell, pIn_call hP hD hK hZ hS hA⟩ rfl hlen hl.1 hst (lv_room hcat) hd ⟨Nat.zero_le _, Nat.zero_le _⟩) hS (fun q _ z => hA q z) hA (fun r u t H1 locs1 ht hvm hw hB hz1 hk1 hS => ?_)
  obtain ⟨rfl, rfl⟩ := hw
  unfold pOut at hB
  rw [ht] at hB
  exact kk H1 locs1 ls hl hB (wld_D hD) hS
theorem g_callVl {r1 : Int64} (C : Cok w h X l0 R0 D0 K0 cc n0 own Ts) (hM : Met l0 y ws rm (va_Pc (.ref (h b) :: As) (pIn w D0 K0 h σ)) (va_Ql (fun r' u' => r' = r1 ∧ u' = u1) (pOut w D0 K0 h) (pA w h)) 0 0 (pA w h)) (hG : GoodIn Ts (wsV own index Cn y ws)) (hw : ws = Cond.code y bytes maxL ret :: ws') (hrc : rm.cells = 0) (hrs : rm.slots = 0) (hdd : y.cls = Cn ∧ y.cls ≠ "java/lang/invoke/MethodHandle" ∧ y.cls ≠ "java/lang/invoke/VarHandle" ∧ (parseMethodDescriptor y.desc).map (fun d => d.parameters.length) = some n) (hR : rm.frames + 1 ≤ R0.frames ∧ 8 + (maxL + 11) + rm.locals ≤ R0.locals) (he : w.1 b = .inl (ci, ks)) (hN : b < w.2.1) (hc : vwCl[ci]? = some (Cn, T, Nf)) (hlen : As.length = n) (hst : st = As.reverse ++ .ref (h b) :: rest) (hcat : (rest.map fun v => v.category).sum ≤ 8) (hd : decode cc pc = .ok (.invokevirtual index, 3)) (kk : G w h X (pc + 3) lv (.long r1 :: rest) u1) : G w h X pc lv st σ := by
  obtain ⟨p, l, e, R, s, m, args, below, meth, c, Q, A, D, K, nL⟩ := X
  obtain ⟨hx, hb, hml, hown, hts, hK, hZ, rfl, rfl, rfl, rfl, rfl, hA⟩ := C
  intro H locs ls hl hP hD hS
  have hcell : (wld w K h σ)[b]? = some (h b, .inr (ci, pobj h σ b ks)) := by rw [wld_at hN, pcell, he]
  refine va_calll (va_runV (As := As) (rest := rest) ⟨hx, hb, hml, hown, hts⟩ hM (cwV n hts hG hw hrc hrs hdd hR) ⟨pIn_blind, va_recv hK hP hc hcell, pIn_call hP hD hK hZ hS hA⟩ rfl hlen hl.1 hst (lv_room hcat) hd ⟨Nat.zero_le _, Nat.zero_le _⟩) hS (fun q _ z => hA q z) hA (fun r u t H1 locs1 ht hvm hw hB hz1 hk1 hS => ?_)
  obtain ⟨rfl, rfl⟩ := hw
  unfold pOut at hB
  rw [ht] at hB
  exact kk H1 locs1 ls hl hB (wld_D hD) hS
theorem g_callVv (C : Cok w h X l0 R0 D0 K0 cc n0 own Ts) (hM : Met l0 y ws rm (va_Pc (.ref (h b) :: As) (pIn w D0 K0 h σ)) (va_Qv (fun u' => u' = u1) (pOut w D0 K0 h) (pA w h)) 0 0 (pA w h)) (hG : GoodIn Ts (wsV own index Cn y ws)) (hw : ws = Cond.code y bytes maxL ret :: ws') (hrc : rm.cells = 0) (hrs : rm.slots = 0) (hdd : y.cls = Cn ∧ y.cls ≠ "java/lang/invoke/MethodHandle" ∧ y.cls ≠ "java/lang/invoke/VarHandle" ∧ (parseMethodDescriptor y.desc).map (fun d => d.parameters.length) = some n) (hR : rm.frames + 1 ≤ R0.frames ∧ 8 + (maxL + 11) + rm.locals ≤ R0.locals) (he : w.1 b = .inl (ci, ks)) (hN : b < w.2.1) (hc : vwCl[ci]? = some (Cn, T, Nf)) (hlen : As.length = n) (hst : st = As.reverse ++ .ref (h b) :: rest) (hcat : (rest.map fun v => v.category).sum ≤ 8) (hd : decode cc pc = .ok (.invokevirtual index, 3)) (kk : G w h X (pc + 3) lv rest u1) : G w h X pc lv st σ := by
  obtain ⟨p, l, e, R, s, m, args, below, meth, c, Q, A, D, K, nL⟩ := X
  obtain ⟨hx, hb, hml, hown, hts, hK, hZ, rfl, rfl, rfl, rfl, rfl, hA⟩ := C
  intro H locs ls hl hP hD hS
  have hcell : (wld w K h σ)[b]? = some (h b, .inr (ci, pobj h σ b ks)) := by rw [wld_at hN, pcell, he]
  refine va_callv (va_runV (As := As) (rest := rest) ⟨hx, hb, hml, hown, hts⟩ hM (cwV n hts hG hw hrc hrs hdd hR) ⟨pIn_blind, va_recv hK hP hc hcell, pIn_call hP hD hK hZ hS hA⟩ rfl hlen hl.1 hst (lv_room hcat) hd ⟨Nat.zero_le _, Nat.zero_le _⟩) hS (fun q _ z => hA q z) hA (fun u t H1 locs1 ht hvm hw hB hz1 hk1 hS => ?_)
  obtain rfl := hw
  unfold pOut at hB
  rw [ht] at hB
  exact kk H1 locs1 ls hl hB (wld_D hD) hS
theorem g_callVr {r1 : Nat} (C : Cok w h X l0 R0 D0 K0 cc n0 own Ts) (hM : Met l0 y ws rm (va_Pc (.ref (h b) :: As) (pIn w D0 K0 h σ)) (va_Qr (fun u' => u' = u1) (fun u' a U => a = h r1 ∧ pOut w D0 K0 h u' U) (pA w h)) 0 0 (pA w h)) (hG : GoodIn Ts (wsV own index Cn y ws)) (hw : ws = Cond.code y bytes maxL ret :: ws') (hrc : rm.cells = 0) (hrs : rm.slots = 0) (hdd : y.cls = Cn ∧ y.cls ≠ "java/lang/invoke/MethodHandle" ∧ y.cls ≠ "java/lang/invoke/VarHandle" ∧ (parseMethodDescriptor y.desc).map (fun d => d.parameters.length) = some n) (hR : rm.frames + 1 ≤ R0.frames ∧ 8 + (maxL + 11) + rm.locals ≤ R0.locals) (he : w.1 b = .inl (ci, ks)) (hN : b < w.2.1) (hc : vwCl[ci]? = some (Cn, T, Nf)) (hlen : As.length = n) (hst : st = As.reverse ++ .ref (h b) :: rest) (hcat : (rest.map fun v => v.category).sum ≤ 8) (hd : decode cc pc = .ok (.invokevirtual index, 3)) (kk : G w h X (pc + 3) lv (.ref (h r1) :: rest) u1) : G w h X pc lv st σ := by
  obtain ⟨p, l, e, R, s, m, args, below, meth, c, Q, A, D, K, nL⟩ := X
  obtain ⟨hx, hb, hml, hown, hts, hK, hZ, rfl, rfl, rfl, rfl, rfl, hA⟩ := C
  intro H locs ls hl hP hD hS
  have hcell : (wld w K h σ)[b]? = some (h b, .inr (ci, pobj h σ b ks)) := by rw [wld_at hN, pcell, he]
  refine va_callr (va_runV (As := As) (rest := rest) ⟨hx, hb, hml, hown, hts⟩ hM (cwV n hts hG hw hrc hrs hdd hR) ⟨pIn_blind, va_recv hK hP hc hcell, pIn_call hP hD hK hZ hS hA⟩ rfl hlen hl.1 hst (lv_room hcat) hd ⟨Nat.zero_le _, Nat.zero_le _⟩) hS (fun q _ z => hA q z) hA (fun u a t H1 locs1 ht hvm hw hB hz1 hk1 hS => ?_)
  obtain rfl := hw
  obtain ⟨rfl, hB⟩ := hB
  unfold pOut at hB
  rw [ht] at hB
  exact kk H1 locs1 ls hl hB (wld_D hD) hS
theorem g_callSi {r1 : Int32} (C : Cok w h X l0 R0 D0 K0 cc n0 own Ts) (hM : Met l0 y ws rm (va_Pc As (pIn w D0 K0 h σ)) (va_Qi (fun r' u' => r' = r1 ∧ u' = u1) (pOut w D0 K0 h) (pA w h)) 0 0 (pA w h)) (hG : GoodIn Ts (va_wsS own index y ws)) (hw : ws = Cond.code y bytes maxL ret :: ws') (hrc : rm.cells = 0) (hrs : rm.slots = 0) (hdd : y.cls ≠ "java/lang/invoke/MethodHandle" ∧ y.cls ≠ "java/lang/invoke/VarHandle" ∧ (parseMethodDescriptor y.desc).map (fun d => d.parameters.length) = some n) (hR : rm.frames + 1 ≤ R0.frames ∧ 8 + (maxL + 11) + rm.locals ≤ R0.locals) (hlen : As.length = n) (hst : st = As.reverse ++ rest) (hcat : (rest.map fun v => v.category).sum ≤ 8) (hd : decode cc pc = .ok (.invokestatic index, 3)) (kk : G w h X (pc + 3) lv (.int r1 :: rest) u1) : G w h X pc lv st σ := by
  obtain ⟨p, l, e, R, s, m, args, below, meth, c, Q, A, D, K, nL⟩ := X
  obtain ⟨hx, hb, hml, hown, hts, hK, hZ, rfl, rfl, rfl, rfl, rfl, hA⟩ := C
  intro H locs ls hl hP hD hS
  refine va_calli (va_runS (As := As) (rest := rest) ⟨hx, hb, hml, hown, hts⟩ hM (va_cwS n hts hG hw hrc hrs hdd hR) ⟨pIn_blind, pIn_call hP hD hK hZ hS hA⟩ rfl hlen hl.1 hst (lv_room hcat) hd ⟨Nat.zero_le _, Nat.zero_le _⟩) hS (fun q _ z => hA q z) hA (fun r u t H1 locs1 ht hvm hw hB hz1 hk1 hS => ?_)
  obtain ⟨rfl, rfl⟩ := hw
  unfold pOut at hB
  rw [ht] at hB
  exact kk H1 locs1 ls hl hB (wld_D hD) hS
theorem g_callSv (C : Cok w h X l0 R0 D0 K0 cc n0 own Ts) (hM : Met l0 y ws rm (va_Pc As (pIn w D0 K0 h σ)) (va_Qv (fun u' => u' = u1) (pOut w D0 K0 h) (pA w h)) 0 0 (pA w h)) (hG : GoodIn Ts (va_wsS own index y ws)) (hw : ws = Cond.code y bytes maxL ret :: ws') (hrc : rm.cells = 0) (hrs : rm.slots = 0) (hdd : y.cls ≠ "java/lang/invoke/MethodHandle" ∧ y.cls ≠ "java/lang/invoke/VarHandle" ∧ (parseMethodDescriptor y.desc).map (fun d => d.parameters.length) = some n) (hR : rm.frames + 1 ≤ R0.frames ∧ 8 + (maxL + 11) + rm.locals ≤ R0.locals) (hlen : As.length = n) (hst : st = As.reverse ++ rest) (hcat : (rest.map fun v => v.category).sum ≤ 8) (hd : decode cc pc = .ok (.invokestatic index, 3)) (kk : G w h X (pc + 3) lv rest u1) : G w h X pc lv st σ := by
  obtain ⟨p, l, e, R, s, m, args, below, meth, c, Q, A, D, K, nL⟩ := X
  obtain ⟨hx, hb, hml, hown, hts, hK, hZ, rfl, rfl, rfl, rfl, rfl, hA⟩ := C
  intro H locs ls hl hP hD hS
  refine va_callv (va_runS (As := As) (rest := rest) ⟨hx, hb, hml, hown, hts⟩ hM (va_cwS n hts hG hw hrc hrs hdd hR) ⟨pIn_blind, pIn_call hP hD hK hZ hS hA⟩ rfl hlen hl.1 hst (lv_room hcat) hd ⟨Nat.zero_le _, Nat.zero_le _⟩) hS (fun q _ z => hA q z) hA (fun u t H1 locs1 ht hvm hw hB hz1 hk1 hS => ?_)
  obtain rfl := hw
  unfold pOut at hB
  rw [ht] at hB
  exact kk H1 locs1 ls hl hB (wld_D hD) hS
/-- the static array of house signs -/
theorem g_signs (C : Cok w h X l0 R0 D0 K0 cc n0 own Ts) (hw : w.2.2 = true) (hlk : Cond.fieldLink own index RX1 "HOUSE_SIGNS" "[B" ∈ Ts) (hd : decode cc pc = .ok (.getstatic index, 3)) (kk : ∀ t : Nat, (match X with | (_, _, _, _, s, _, _, _, _, _, _, A, _, _, _) => va_T .byte t 6 (fun j => .int (hsg j)) A s s.heap) → G w h X (pc + 3) lv (.ref t :: st) σ) : G w h X pc lv st σ := by
  obtain ⟨p, l, e, R, s, m, args, below, meth, c, Q, A, D, K, nL⟩ := X
  obtain ⟨hx, hb, hml, hown, hts, hK, hZ, rfl, rfl, rfl, rfl, rfl, hA⟩ := C
  intro H locs ls hl hP hD hS
  obtain ⟨t, hz1, hz2⟩ := hZ hw
  exact va_gets hx hb hz1 hS hown (hts _ hlk) (fun _ z => z) hd (kk t hz2 H locs ls hl hP hD hS)
theorem g_signsLen {t : Nat} (C : Cok w h X l0 R0 D0 K0 cc n0 own Ts) (hT : match X with | (_, _, _, _, s, _, _, _, _, _, _, A, _, _, _) => va_T .byte t 6 (fun j => .int (hsg j)) A s s.heap) (hd : decode cc pc = .ok (.arraylength, 1)) (kk : G w h X (pc + 1) lv (.int 6 :: st) σ) : G w h X pc lv (.ref t :: st) σ := by
  obtain ⟨p, l, e, R, s, m, args, below, meth, c, Q, A, D, K, nL⟩ := X
  obtain ⟨hx, hb, hml, hown, hts, hK, hZ, rfl, rfl, rfl, rfl, rfl, hA⟩ := C
  intro H locs ls hl hP hD hS
  exact va_tlen hx hb hT hS rfl hd (kk H locs ls hl hP hD hS)
theorem g_signsAt {t : Nat} {i : Int32} {ρ : Type} {B : Option ρ} {rs : ρ} (hf : (if pin i 6 then B else none) = some rs) (C : Cok w h X l0 R0 D0 K0 cc n0 own Ts) (hT : match X with | (_, _, _, _, s, _, _, _, _, _, _, A, _, _, _) => va_T .byte t 6 (fun j => .int (hsg j)) A s s.heap) (hd : decode cc pc = .ok (.baload, 1)) (kk : B = some rs → G w h X (pc + 1) lv (.int (hsg i.toNatClampNeg) :: st) σ) : G w h X pc lv (.int i :: .ref t :: st) σ := by
  obtain ⟨hpi, hf⟩ := g_guard hf
  replace kk := kk hf
  obtain ⟨p, l, e, R, s, m, args, below, meth, c, Q, A, D, K, nL⟩ := X
  obtain ⟨hx, hb, hml, hown, hts, hK, hZ, rfl, rfl, rfl, rfl, rfl, hA⟩ := C
  intro H locs ls hl hP hD hS
  exact va_tb hx hb hT hS (pin_in hpi) rfl hd (kk H locs ls hl hP hD hS)
/-- System.arraycopy between two int arrays -/
def pcp (w : pW) (e0 e1 : Nat) (n0 n1 : Nat) (sp dp n : Int32) : Bool := !(decide (sp < 0)) && !(decide (dp < 0)) && !(decide (n < 0)) && decide (sp.toNatClampNeg + n.toNatClampNeg ≤ n0) && decide (dp.toNatClampNeg + n.toNatClampNeg ≤ n1)
theorem g_copy {e0 e1 k0 k1 b0 b1 : Nat} {sp dp n : Int32} {ρ : Type} {B : Option ρ} {rs : ρ} (hf : (if pcp w e0 e1 k0 k1 sp dp n then B else none) = some rs) (C : Cok w h X l0 R0 D0 K0 cc n0 own Ts) (hl1 : Cond.methodLink own index arraycopyName ∈ Ts) (hl2 : Cond.native arraycopyName ∈ Ts) (hl3 : Cond.static arraycopyName ∈ Ts) (hl4 : Cond.initialized "java/lang/System" ∈ Ts) (he0 : w.1 e0 = .inr (0, k0, b0)) (hN0 : e0 < w.2.1) (he1 : w.1 e1 = .inr (0, k1, b1)) (hN1 : e1 < w.2.1) (hfr : 1 ≤ R0.frames) (hlo : (st.map fun v => v.category).sum + (nativeFrameWords "java/lang/System" "arraycopy" 5 + 11) ≤ R0.locals) (hd : decode cc pc = .ok (.invokestatic index, 3)) (kk : B = some rs → G w h X (pc + 3) lv st (sF σ e1 (va_cpy (σ.1 e0) (σ.1 e1) sp.toNatClampNeg dp.toNatClampNeg n.toNatClampNeg))) : G w h X pc lv (.int n :: .int dp :: .ref (h e1) :: .int sp :: .ref (h e0) :: st) σ := by
  obtain ⟨hpi, hf⟩ := g_guard hf
  replace kk := kk hf
  simp only [pcp, Bool.and_eq_true, Bool.not_eq_true', decide_eq_false_iff_not, decide_eq_true_eq] at hpi
  obtain ⟨⟨⟨⟨h1, h2⟩, h3⟩, h4⟩, h5⟩ := hpi
  obtain ⟨p, l, e, R, s, m, args, below, meth, c, Q, A, D, K, nL⟩ := X
  obtain ⟨hx, hb, hml, hown, hts, hK, hZ, rfl, rfl, rfl, rfl, rfl, hA⟩ := C
  intro H locs ls hl hP hD hS
  have hc0 : (wld w K h σ)[e0]? = some (h e0, .inl (K e0, k0, .inl (σ.1 e0))) := by rw [wld_at hN0, pcell, he0]; rfl
  have hc1 : (wld w K h σ)[e1]? = some (h e1, .inl (K e1, k1, .inl (σ.1 e1))) := by rw [wld_at hN1, pcell, he1]; rfl
  obtain ⟨t0, ht0⟩ := wty_at (K := K) hN0 he0
  obtain ⟨t1, ht1⟩ := wty_at (K := K) hN1 he1
  refine va_copyi (ty := .int) hx hb (by rw [hml]; exact hl.1.symm) hown (hts _ hl1) (hts _ hl2) (hts _ hl3) (hts _ hl4) hK hP hD hS e0 e1 t0 t1 hc0 hc1 ht0 ht1 rfl h1 h2 h3 h4 h5 (fun _ _ => rfl) hfr hlo hd (fun H1 locs1 hP1 hD1 hS1 => ?_)
  rw [wld_set (σ' := sF σ e1 (va_cpy (σ.1 e0) (σ.1 e1) sp.toNatClampNeg dp.toNatClampNeg n.toNatClampNeg)) hN1 (by rw [pcell, he1]; simp [parr, sF]) (fun e' hne => pcell_ne (sF_ne hne))] at hP1
  exact kk H1 locs1 ls hl hP1 (wld_D hD) hS1
theorem g_mmax {x y : Int32} (C : Cok w h X l0 R0 D0 K0 cc n0 own Ts) (h1 : Cond.methodLink own index Lib.Math.max.name ∈ Ts) (h2 : Cond.static Lib.Math.max.name ∈ Ts) (h3 : Cond.initialized "java/lang/Math" ∈ Ts) (h4 : Cond.code Lib.Math.max.name Lib.Math.max.code 2 (some .int) ∈ Ts) (hfr : 1 ≤ R0.frames) (hlo : (st.map fun v => v.category).sum + 13 ≤ R0.locals) (hd : decode cc pc = .ok (.invokestatic index, 3)) (kk : G w h X (pc + 3) lv (.int (if x < y then y else x) :: st) σ) : G w h X pc lv (.int y :: .int x :: st) σ := by
  obtain ⟨p, l, e, R, s, m, args, below, meth, c, Q, A, D, K, nL⟩ := X
  obtain ⟨hx, hb, hml, hown, hts, hK, hZ, rfl, rfl, rfl, rfl, rfl, hA⟩ := C
  intro H locs ls hl hP hD hS
  exact va_mmax hx hb (by rw [hml]; exact hl.1.symm) hown (hts _ h1) (hts _ h2) (hts _ h3) (hts _ h4) hfr hlo (Nat.zero_le _) (Nat.zero_le _) hd (kk H locs ls hl hP hD hS)
theorem g_mmin {x y : Int32} (C : Cok w h X l0 R0 D0 K0 cc n0 own Ts) (h1 : Cond.methodLink own index Lib.Math.min.name ∈ Ts) (h2 : Cond.static Lib.Math.min.name ∈ Ts) (h3 : Cond.initialized "java/lang/Math" ∈ Ts) (h4 : Cond.code Lib.Math.min.name Lib.Math.min.code 2 (some .int) ∈ Ts) (hfr : 1 ≤ R0.frames) (hlo : (st.map fun v => v.category).sum + 13 ≤ R0.locals) (hd : decode cc pc = .ok (.invokestatic index, 3)) (kk : G w h X (pc + 3) lv (.int (if y < x then y else x) :: st) σ) : G w h X pc lv (.int y :: .int x :: st) σ := by
  obtain ⟨p, l, e, R, s, m, args, below, meth, c, Q, A, D, K, nL⟩ := X
  obtain ⟨hx, hb, hml, hown, hts, hK, hZ, rfl, rfl, rfl, rfl, rfl, hA⟩ := C
  intro H locs ls hl hP hD hS
  exact va_mmin hx hb (by rw [hml]; exact hl.1.symm) hown (hts _ h1) (hts _ h2) (hts _ h3) (hts _ h4) hfr hlo (Nat.zero_le _) (Nat.zero_le _) hd (kk H locs ls hl hP hD hS)
theorem g_mabs {x : Int32} (C : Cok w h X l0 R0 D0 K0 cc n0 own Ts) (h1 : Cond.methodLink own index Lib.Math.abs.name ∈ Ts) (h2 : Cond.static Lib.Math.abs.name ∈ Ts) (h3 : Cond.initialized "java/lang/Math" ∈ Ts) (h4 : Cond.code Lib.Math.abs.name Lib.Math.abs.code 1 (some .int) ∈ Ts) (hfr : 1 ≤ R0.frames) (hlo : (st.map fun v => v.category).sum + 13 ≤ R0.locals) (hd : decode cc pc = .ok (.invokestatic index, 3)) (kk : G w h X (pc + 3) lv (.int (if 0 ≤ x then x else 0 - x) :: st) σ) : G w h X pc lv (.int x :: st) σ := by
  obtain ⟨p, l, e, R, s, m, args, below, meth, c, Q, A, D, K, nL⟩ := X
  obtain ⟨hx, hb, hml, hown, hts, hK, hZ, rfl, rfl, rfl, rfl, rfl, hA⟩ := C
  intro H locs ls hl hP hD hS
  exact va_mabs hx hb (by rw [hml]; exact hl.1.symm) hown (hts _ h1) (hts _ h2) (hts _ h3) (hts _ h4) hfr hlo (Nat.zero_le _) (Nat.zero_le _) hd (kk H locs ls hl hP hD hS)
end GC
/-! a method's contract out of its body -/
section GM
variable {w : pW} {h : Nat → Nat} {l0 : Launch} {rm : Room} {D0 : va_G} {K0 : Nat → ClassId} {cc : ByteArray} {n0 : Nat} {own : String} {lv : List (Nat × Value)} {σ u1 : pS}
variable {y : MethodName} {ws ws' : List Cond} {av : List Value}
theorem p_metI {r1 : Int32} (hy : plainName y.cls = true) (hw : ws = Cond.code y cc n0 (some .int) :: ws') (hcl : y.cls = own) (hle : (lg_sl av).length ≤ n0) (hlv : lv_args 0 av = lv) (body : ∀ X : Cx, Cok w h X l0 rm D0 K0 cc n0 own ws → (∀ (pc : Nat) (lv' : List (Nat × Value)), decode cc pc = .ok (.ireturn, 1) → G w h X pc lv' [.int r1] u1) → G w h X 0 lv [] σ) : Met l0 y ws rm (va_Pc av (pIn w D0 K0 h σ)) (va_Qi (fun r' u' => r' = r1 ∧ u' = u1) (pOut w D0 K0 h) (pA w h)) 0 0 (pA w h) := by
  refine Met.ofW (cc := cc) (maxL := n0) (ret := some .int) hy hw ?_
  intro p e s m args below meth c s₁ B hml hv
  obtain ⟨rfl, hP, hK, hD, hZ⟩ := hv
  have hr := B.returns
  have hlocks := B.notSynchronized
  have hts := atoms_spec (ws := ws) B.pre
  have hown : s.vm.findClass own = some m.cls := by rw [← hcl]; exact findClass_of_methodNamed B.named
  have hDA : va_D (pA w h) (wld w K0 h σ) := hD.weaken (fun k q hk _ => by obtain ⟨h1, rfl⟩ := wld_get hk; exact ⟨k, h1, rfl⟩)
  have hl := lv_entry av (n := n0) hle
  rw [hlv] at hl
  rw [lg_entry_eq]
  refine body (p, l0, e, rm, s, m, av.toArray, below, meth, c, MQ below (va_Qi (fun r' u' => r' = r1 ∧ u' = u1) (pOut w D0 K0 h) (pA w h)) av.toArray s 0 0 (pA w h), pA w h, D0, K0, n0) ⟨B.exec, B.bytes, hml, hown, hts, hK, hZ, rfl, rfl, rfl, rfl, rfl, fun _ z => z⟩ (fun pc lv' hd => ?_) s.heap [] _ hl hP hDA va_S.rf
  intro H locs ls hl2 hP2 hD2 hS2
  exact W.iret B.exec B.bytes hr (fun t ht hW => ⟨⟨r1, u1, rfl, ⟨rfl, rfl⟩, by unfold pOut; rw [ht]; exact hP2⟩, hS2.F ht⟩) hS2.2.2 hd
theorem p_metZ {r1 : Int32} (hy : plainName y.cls = true) (hw : ws = Cond.code y cc n0 (some .boolean) :: ws') (hcl : y.cls = own) (hle : (lg_sl av).length ≤ n0) (hlv : lv_args 0 av = lv) (body : ∀ X : Cx, Cok w h X l0 rm D0 K0 cc n0 own ws → (∀ (pc : Nat) (lv' : List (Nat × Value)), vp_nar .boolean r1 = r1 → decode cc pc = .ok (.ireturn, 1) → G w h X pc lv' [.int r1] u1) → G w h X 0 lv [] σ) : Met l0 y ws rm (va_Pc av (pIn w D0 K0 h σ)) (va_Qi (fun r' u' => r' = r1 ∧ u' = u1) (pOut w D0 K0 h) (pA w h)) 0 0 (pA w h) := by
  refine Met.ofW (cc := cc) (maxL := n0) (ret := some .boolean) hy hw ?_
  intro p e s m args below meth c s₁ B hml hv
  obtain ⟨rfl, hP, hK, hD, hZ⟩ := hv
  have hr := B.returns
  have hlocks := B.notSynchronized
  have hts := atoms_spec (ws := ws) B.pre
  have hown : s.vm.findClass own = some m.cls := by rw [← hcl]; exact findClass_of_methodNamed B.named
  have hDA : va_D (pA w h) (wld w K0 h σ) := hD.weaken (fun k q hk _ => by obtain ⟨h1, rfl⟩ := wld_get hk; exact ⟨k, h1, rfl⟩)
  have hl := lv_entry av (n := n0) hle
  rw [hlv] at hl
  rw [lg_entry_eq]
  refine body (p, l0, e, rm, s, m, av.toArray, below, meth, c, MQ below (va_Qi (fun r' u' => r' = r1 ∧ u' = u1) (pOut w D0 K0 h) (pA w h)) av.toArray s 0 0 (pA w h), pA w h, D0, K0, n0) ⟨B.exec, B.bytes, hml, hown, hts, hK, hZ, rfl, rfl, rfl, rfl, rfl, fun _ z => z⟩ (fun pc lv' hn hd => ?_) s.heap [] _ hl hP hDA va_S.rf
  intro H locs ls hl2 hP2 hD2 hS2
  exact W.zret B.exec B.bytes hr (by rw [show narrow .boolean (.int r1) = .int (vp_nar .boolean r1) from rfl, hn]) (fun t ht hW => ⟨⟨r1, u1, rfl, ⟨rfl, rfl⟩, by unfold pOut; rw [ht]; exact hP2⟩, hS2.F ht⟩) hS2.2.2 hd
theorem p_metL {r1 : Int64} (hy : plainName y.cls = true) (hw : ws = Cond.code y cc n0 (some .long) :: ws') (hcl : y.cls = own) (hle : (lg_sl av).length ≤ n0) (hlv : lv_args 0 av = lv) (body : ∀ X : Cx, Cok w h X l0 rm D0 K0 cc n0 own ws → (∀ (pc : Nat) (lv' : List (Nat × Value)), decode cc pc = .ok (.lreturn, 1) → G w h X pc lv' [.long r1] u1) → G w h X 0 lv [] σ) : Met l0 y ws rm (va_Pc av (pIn w D0 K0 h σ)) (va_Ql (fun r' u' => r' = r1 ∧ u' = u1) (pOut w D0 K0 h) (pA w h)) 0 0 (pA w h) := by
  refine Met.ofW (cc := cc) (maxL := n0) (ret := some .long) hy hw ?_
  intro p e s m args below meth c s₁ B hml hv
  obtain ⟨rfl, hP, hK, hD, hZ⟩ := hv
  have hr := B.returns
  have hlocks := B.notSynchronized
  have hts := atoms_spec (ws := ws) B.pre
  have hown : s.vm.findClass own = some m.cls := by rw [← hcl]; exact findClass_of_methodNamed B.named
  have hDA : va_D (pA w h) (wld w K0 h σ) := hD.weaken (fun k q hk _ => by obtain ⟨h1, rfl⟩ := wld_get hk; exact ⟨k, h1, rfl⟩)
  have hl := lv_entry av (n := n0) hle
  rw [hlv] at hl
  rw [lg_entry_eq]
  refine body (p, l0, e, rm, s, m, av.toArray, below, meth, c, MQ below (va_Ql (fun r' u' => r' = r1 ∧ u' = u1) (pOut w D0 K0 h) (pA w h)) av.toArray s 0 0 (pA w h), pA w h, D0, K0, n0) ⟨B.exec, B.bytes, hml, hown, hts, hK, hZ, rfl, rfl, rfl, rfl, rfl, fun _ z => z⟩ (fun pc lv' hd => ?_) s.heap [] _ hl hP hDA va_S.rf
  intro H locs ls hl2 hP2 hD2 hS2
  exact W.lret B.exec B.bytes hr (fun t ht hW => ⟨⟨r1, u1, rfl, ⟨rfl, rfl⟩, by unfold pOut; rw [ht]; exact hP2⟩, hS2.F ht⟩) hS2.2.2 hd
theorem p_metV (hy : plainName y.cls = true) (hw : ws = Cond.code y cc n0 none :: ws') (hcl : y.cls = own) (hle : (lg_sl av).length ≤ n0) (hlv : lv_args 0 av = lv) (body : ∀ X : Cx, Cok w h X l0 rm D0 K0 cc n0 own ws → (∀ (pc : Nat) (lv' : List (Nat × Value)), decode cc pc = .ok (.return_, 1) → G w h X pc lv' [] u1) → G w h X 0 lv [] σ) : Met l0 y ws rm (va_Pc av (pIn w D0 K0 h σ)) (va_Qv (fun u' => u' = u1) (pOut w D0 K0 h) (pA w h)) 0 0 (pA w h) := by
  refine Met.ofW (cc := cc) (maxL := n0) (ret := none) hy hw ?_
  intro p e s m args below meth c s₁ B hml hv
  obtain ⟨rfl, hP, hK, hD, hZ⟩ := hv
  have hr := B.returns
  have hlocks := B.notSynchronized
  have hts := atoms_spec (ws := ws) B.pre
  have hown : s.vm.findClass own = some m.cls := by rw [← hcl]; exact findClass_of_methodNamed B.named
  have hDA : va_D (pA w h) (wld w K0 h σ) := hD.weaken (fun k q hk _ => by obtain ⟨h1, rfl⟩ := wld_get hk; exact ⟨k, h1, rfl⟩)
  have hl := lv_entry av (n := n0) hle
  rw [hlv] at hl
  rw [lg_entry_eq]
  refine body (p, l0, e, rm, s, m, av.toArray, below, meth, c, MQ below (va_Qv (fun u' => u' = u1) (pOut w D0 K0 h) (pA w h)) av.toArray s 0 0 (pA w h), pA w h, D0, K0, n0) ⟨B.exec, B.bytes, hml, hown, hts, hK, hZ, rfl, rfl, rfl, rfl, rfl, fun _ z => z⟩ (fun pc lv' hd => ?_) s.heap [] _ hl hP hDA va_S.rf
  intro H locs ls hl2 hP2 hD2 hS2
  exact W.vret B.exec B.bytes hr (fun t ht hW => ⟨⟨u1, rfl, rfl, by unfold pOut; rw [ht]; exact hP2⟩, hS2.F ht⟩) hS2.2.2 hd
theorem p_metR {r1 : Nat} {cn : String} (hy : plainName y.cls = true) (hw : ws = Cond.code y cc n0 (some (.object cn)) :: ws') (hcl : y.cls = own) (hle : (lg_sl av).length ≤ n0) (hlv : lv_args 0 av = lv) (body : ∀ X : Cx, Cok w h X l0 rm D0 K0 cc n0 own ws → (∀ (pc : Nat) (lv' : List (Nat × Value)), decode cc pc = .ok (.areturn, 1) → G w h X pc lv' [.ref (h r1)] u1) → G w h X 0 lv [] σ) : Met l0 y ws rm (va_Pc av (pIn w D0 K0 h σ)) (va_Qr (fun u' => u' = u1) (fun u' a U => a = h r1 ∧ pOut w D0 K0 h u' U) (pA w h)) 0 0 (pA w h) := by
  refine Met.ofW (cc := cc) (maxL := n0) (ret := some (.object cn)) hy hw ?_
  intro p e s m args below meth c s₁ B hml hv
  obtain ⟨rfl, hP, hK, hD, hZ⟩ := hv
  have hr := B.returns
  have hlocks := B.notSynchronized
  have hts := atoms_spec (ws := ws) B.pre
  have hown : s.vm.findClass own = some m.cls := by rw [← hcl]; exact findClass_of_methodNamed B.named
  have hDA : va_D (pA w h) (wld w K0 h σ) := hD.weaken (fun k q hk _ => by obtain ⟨h1, rfl⟩ := wld_get hk; exact ⟨k, h1, rfl⟩)
  have hl := lv_entry av (n := n0) hle
  rw [hlv] at hl
  rw [lg_entry_eq]
  refine body (p, l0, e, rm, s, m, av.toArray, below, meth, c, MQ below (va_Qr (fun u' => u' = u1) (fun u' a U => a = h r1 ∧ pOut w D0 K0 h u' U) (pA w h)) av.toArray s 0 0 (pA w h), pA w h, D0, K0, n0) ⟨B.exec, B.bytes, hml, hown, hts, hK, hZ, rfl, rfl, rfl, rfl, rfl, fun _ z => z⟩ (fun pc lv' hd => ?_) s.heap [] _ hl hP hDA va_S.rf
  intro H locs ls hl2 hP2 hD2 hS2
  exact W.aret B.exec B.bytes hr (Or.inl ⟨cn, rfl⟩) (Or.inr ⟨h r1, rfl⟩) (fun t ht hW => ⟨⟨u1, h r1, rfl, rfl, rfl, by unfold pOut; rw [ht]; exact hP2⟩, hS2.F ht⟩) hS2.2.2 hd
end GM
/-! the returns of a body -/
section GT
variable {w : pW} {h : Nat → Nat} {X : Cx} {cc : ByteArray} {pc : Nat} {lv : List (Nat × Value)} {σ : pS}
theorem g_lv {st : List Value} {lv' : List (Nat × Value)} (ks : List Nat) (hk : lv_pick lv ks = lv') (kk : G w h X pc lv' st σ) : G w h X pc lv st σ := by
  obtain ⟨p, l, e, R, s, m, args, below, meth, c, Q, A, D, K, nL⟩ := X
  intro H locs ls hl hP hD hS
  exact kk H locs ls (lv_sub hl ks hk) hP hD hS
theorem g_reti {v r : Int32} (hf : some v = some r) (hret : ∀ (pc : Nat) (lv' : List (Nat × Value)), decode cc pc = .ok (.ireturn, 1) → G w h X pc lv' [.int r] σ) (hd : decode cc pc = .ok (.ireturn, 1)) : G w h X pc lv [.int v] σ := by
  cases hf; exact hret _ _ hd
theorem g_retiW {v r : Int32} {u : pS} (hf : some (v, σ) = some (r, u)) (hret : ∀ (pc : Nat) (lv' : List (Nat × Value)), decode cc pc = .ok (.ireturn, 1) → G w h X pc lv' [.int r] u) (hd : decode cc pc = .ok (.ireturn, 1)) : G w h X pc lv [.int v] σ := by
  cases hf; exact hret _ _ hd
theorem g_retz {v r : Int32} (hf : some v = some r) (hn : vp_nar .boolean v = v) (hret : ∀ (pc : Nat) (lv' : List (Nat × Value)), vp_nar .boolean r = r → decode cc pc = .ok (.ireturn, 1) → G w h X pc lv' [.int r] σ) (hd : decode cc pc = .ok (.ireturn, 1)) : G w h X pc lv [.int v] σ := by
  cases hf; exact hret _ _ hn hd
theorem g_retzW {v r : Int32} {u : pS} (hf : some (v, σ) = some (r, u)) (hn : vp_nar .boolean v = v) (hret : ∀ (pc : Nat) (lv' : List (Nat × Value)), vp_nar .boolean r = r → decode cc pc = .ok (.ireturn, 1) → G w h X pc lv' [.int r] u) (hd : decode cc pc = .ok (.ireturn, 1)) : G w h X pc lv [.int v] σ := by
  cases hf; exact hret _ _ hn hd
theorem g_retzG {v r : Int32} (hf : (if vp_nar .boolean v = v then some v else none) = some r) (hret : ∀ (pc : Nat) (lv' : List (Nat × Value)), vp_nar .boolean r = r → decode cc pc = .ok (.ireturn, 1) → G w h X pc lv' [.int r] σ) (hd : decode cc pc = .ok (.ireturn, 1)) : G w h X pc lv [.int v] σ := by
  by_cases hn : vp_nar .boolean v = v
  · rw [if_pos hn] at hf; cases hf; exact hret _ _ hn hd
  · rw [if_neg hn] at hf; cases hf
theorem g_retzGW {v r : Int32} {u : pS} (hf : (if vp_nar .boolean v = v then some (v, σ) else none) = some (r, u)) (hret : ∀ (pc : Nat) (lv' : List (Nat × Value)), vp_nar .boolean r = r → decode cc pc = .ok (.ireturn, 1) → G w h X pc lv' [.int r] u) (hd : decode cc pc = .ok (.ireturn, 1)) : G w h X pc lv [.int v] σ := by
  by_cases hn : vp_nar .boolean v = v
  · rw [if_pos hn] at hf; cases hf; exact hret _ _ hn hd
  · rw [if_neg hn] at hf; cases hf
theorem g_retl {v r : Int64} (hf : some v = some r) (hret : ∀ (pc : Nat) (lv' : List (Nat × Value)), decode cc pc = .ok (.lreturn, 1) → G w h X pc lv' [.long r] σ) (hd : decode cc pc = .ok (.lreturn, 1)) : G w h X pc lv [.long v] σ := by
  cases hf; exact hret _ _ hd
theorem g_retlW {v r : Int64} {u : pS} (hf : some (v, σ) = some (r, u)) (hret : ∀ (pc : Nat) (lv' : List (Nat × Value)), decode cc pc = .ok (.lreturn, 1) → G w h X pc lv' [.long r] u) (hd : decode cc pc = .ok (.lreturn, 1)) : G w h X pc lv [.long v] σ := by
  cases hf; exact hret _ _ hd
theorem g_retrW {v r : Nat} {u : pS} (hf : some (v, σ) = some (r, u)) (hret : ∀ (pc : Nat) (lv' : List (Nat × Value)), decode cc pc = .ok (.areturn, 1) → G w h X pc lv' [.ref (h r)] u) (hd : decode cc pc = .ok (.areturn, 1)) : G w h X pc lv [.ref (h v)] σ := by
  cases hf; exact hret _ _ hd
theorem g_retvW {r : Unit} {u : pS} (hf : some ((), σ) = some (r, u)) (hret : ∀ (pc : Nat) (lv' : List (Nat × Value)), decode cc pc = .ok (.return_, 1) → G w h X pc lv' [] u) (hd : decode cc pc = .ok (.return_, 1)) : G w h X pc lv [] σ := by
  cases hf; exact hret _ _ hd
end GT
def FU : Nat := 1000
