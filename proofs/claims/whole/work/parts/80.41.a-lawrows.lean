/-! the law's judgement: two worlds in one heap, and the script -/
abbrev Cy : Type := Program × Launch × Env × State × MethodId × Array Value × List Frame × Method × Code × (State → Prop) × va_G × (Nat → ClassId) × (Nat → ClassId) × Nat × Nat
def G2 (hX hM : Nat → Nat) (Y : Cy) (pc : Nat) (lv : List (Nat × Value)) (st : List Value) (σ τ : pS) : Prop :=
  match Y with
  | (p, l, e, s, m, args, below, meth, c, Q, D, K, K2, ce, sl) => ∀ (H : Heap) (locs : List Loc) (ls : Array Slot), lv_has ls 4 lv → va_P D vwCl (wld wX K hX σ) H → va_P D vwCl (wld wM K2 hM τ) H → va_S (fun q : Nat => s.heap.size ≤ q) s.heap H locs → W p l e room_1 s m args below meth c H locs ce sl Q (F0 m pc ls st)
def C2 (hX hM : Nat → Nat) (Y : Cy) (l0 : Launch) (D0 : va_G) (K0 K1 : Nat → ClassId) (b L : Nat) (xs : Nat → Int32) : Prop :=
  match Y with
  | (p, l, e, s, m, args, below, meth, c, Q, D, K, K2, ce, sl) => p.tables.exec = Jvm.exec ∧ c.code = cL_law ∧ c.maxLocals = 4 ∧ s.vm.findClass RL = some m.cls ∧ (∀ q ∈ wsL_law, q.before args s = true) ∧ va_K D vwCl (wty wX K) s ∧ va_K D vwCl (wty wM K2) s ∧ pZ wX (fun q : Nat => s.heap.size ≤ q) s s.heap ∧ l = l0 ∧ D = D0 ∧ K = K0 ∧ K2 = K1 ∧ va_D (fun q : Nat => s.heap.size ≤ q) (wld wX K hX (fun _ _ => 0, fun _ _ => 0, fun _ _ => 0)) ∧ va_D (fun q : Nat => s.heap.size ≤ q) (wld wM K2 hM (fun _ _ => 0, fun _ _ => 0, fun _ _ => 0)) ∧ (∀ a b, a < wX.2.1 → b < wM.2.1 → hX a ≠ hM b) ∧ va_X b L xs s s.heap ∧ b < s.heap.size ∧ ce ≤ 600000 ∧ sl ≤ 7302250 ∧ meth.sig.returnType = ret ∧ meth.locks = false ∧ args = #[Value.ref b] ∧ Q = lw_Z below #[Value.ref b] s
section G2R
variable {hX hM : Nat → Nat} {Y : Cy} {l0 : Launch} {D0 : va_G} {K0 K1 : Nat → ClassId} {b L : Nat} {xs : Nat → Int32} {pc : Nat} {lv : List (Nat × Value)} {st : List Value} {σ τ : pS}
theorem k_iconst {n : Int} {v : Int32} (C : C2 hX hM Y l0 D0 K0 K1 b L xs) (hd : decode cL_law pc = .ok (.iconst n, 1)) (hv : Int32.ofInt n = v) (kk : G2 hX hM Y (pc + 1) lv (.int v :: st) σ τ) : G2 hX hM Y pc lv (st) σ τ := by
  obtain ⟨p, l, e, s, m, args, below, meth, c, Q, D, K, K2, ce, sl⟩ := Y
  obtain ⟨hx, hb, hml, hown, hts, hK, hKm, hZ, rfl, rfl, rfl, rfl, hD, hDm, hdis, hXs, hbl, hce, hsl, hr, hlocks, hargs, hQ⟩ := C
  intro H locs ls hl hP hPm hS
  exact lv_iconst hx hb hd hv (kk H locs ls hl hP hPm hS)
theorem k_bipush {n : Int} {v : Int32} (C : C2 hX hM Y l0 D0 K0 K1 b L xs) (hd : decode cL_law pc = .ok (.bipush n, 2)) (hv : (Int8.ofInt n).toInt32 = v) (kk : G2 hX hM Y (pc + 2) lv (.int v :: st) σ τ) : G2 hX hM Y pc lv (st) σ τ := by
  obtain ⟨p, l, e, s, m, args, below, meth, c, Q, D, K, K2, ce, sl⟩ := Y
  obtain ⟨hx, hb, hml, hown, hts, hK, hKm, hZ, rfl, rfl, rfl, rfl, hD, hDm, hdis, hXs, hbl, hce, hsl, hr, hlocks, hargs, hQ⟩ := C
  intro H locs ls hl hP hPm hS
  exact lv_bipush hx hb hd hv (kk H locs ls hl hP hPm hS)
theorem k_iload_n {k : Fin 4} {i : Nat} {x : Int32} (C : C2 hX hM Y l0 D0 K0 K1 b L xs) (j : Nat) (hd : decode cL_law pc = .ok (.iload_n k, 1)) (hi : (k : Nat) = i) (hk : lv[j]? = some (i, .int x)) (kk : G2 hX hM Y (pc + 1) lv (.int x :: st) σ τ) : G2 hX hM Y pc lv (st) σ τ := by
  obtain ⟨p, l, e, s, m, args, below, meth, c, Q, D, K, K2, ce, sl⟩ := Y
  obtain ⟨hx, hb, hml, hown, hts, hK, hKm, hZ, rfl, rfl, rfl, rfl, hD, hDm, hdis, hXs, hbl, hce, hsl, hr, hlocks, hargs, hQ⟩ := C
  intro H locs ls hl hP hPm hS
  exact lv_iload_n hx hb hd hi (lv_at hl j hk) (kk H locs ls hl hP hPm hS)
theorem k_aload_n {k : Fin 4} {i : Nat} {x : Nat} (C : C2 hX hM Y l0 D0 K0 K1 b L xs) (j : Nat) (hd : decode cL_law pc = .ok (.aload_n k, 1)) (hi : (k : Nat) = i) (hk : lv[j]? = some (i, .ref x)) (kk : G2 hX hM Y (pc + 1) lv (.ref x :: st) σ τ) : G2 hX hM Y pc lv (st) σ τ := by
  obtain ⟨p, l, e, s, m, args, below, meth, c, Q, D, K, K2, ce, sl⟩ := Y
  obtain ⟨hx, hb, hml, hown, hts, hK, hKm, hZ, rfl, rfl, rfl, rfl, hD, hDm, hdis, hXs, hbl, hce, hsl, hr, hlocks, hargs, hQ⟩ := C
  intro H locs ls hl hP hPm hS
  exact lv_aload_n hx hb hd hi (lv_at hl j hk) (kk H locs ls hl hP hPm hS)
theorem k_iinc {i : Nat} {n : Int} {x c : Int32} {lv' : List (Nat × Value)} (C : C2 hX hM Y l0 D0 K0 K1 b L xs) (j : Nat) (ks : List Nat) (hd : decode cL_law pc = .ok (.iinc i n, 3)) (hj : lv[j]? = some (i, .int x)) (hv : Int32.ofInt n = c) (hn : i < 4) (hk : lv_pick ((i, .int (x + c)) :: lv.filter (fun q => !(q.1 == i) && !(q.1 + 1 == i && q.2.category == 2))) ks = lv') (kk : G2 hX hM Y (pc + 3) lv' (st) σ τ) : G2 hX hM Y pc lv (st) σ τ := by
  obtain ⟨p, l, e, s, m, args, below, meth, c, Q, D, K, K2, ce, sl⟩ := Y
  obtain ⟨hx, hb, hml, hown, hts, hK, hKm, hZ, rfl, rfl, rfl, rfl, hD, hDm, hdis, hXs, hbl, hce, hsl, hr, hlocks, hargs, hQ⟩ := C
  intro H locs ls hl hP hPm hS
  exact lv_iinc hx hb hd hl hj (by rw [hv]) hn rfl (fun ls' hl' => kk H locs ls' (lv_sub hl' ks hk) hP hPm hS)
theorem k_iadd {x y : Int32} (C : C2 hX hM Y l0 D0 K0 K1 b L xs) (hd : decode cL_law pc = .ok (.iadd, 1)) (kk : G2 hX hM Y (pc + 1) lv (.int (x + y) :: st) σ τ) : G2 hX hM Y pc lv (.int y :: .int x :: st) σ τ := by
  obtain ⟨p, l, e, s, m, args, below, meth, c, Q, D, K, K2, ce, sl⟩ := Y
  obtain ⟨hx, hb, hml, hown, hts, hK, hKm, hZ, rfl, rfl, rfl, rfl, hD, hDm, hdis, hXs, hbl, hce, hsl, hr, hlocks, hargs, hQ⟩ := C
  intro H locs ls hl hP hPm hS
  exact lv_iadd hx hb hd (kk H locs ls hl hP hPm hS)
theorem k_isub {x y : Int32} (C : C2 hX hM Y l0 D0 K0 K1 b L xs) (hd : decode cL_law pc = .ok (.isub, 1)) (kk : G2 hX hM Y (pc + 1) lv (.int (x - y) :: st) σ τ) : G2 hX hM Y pc lv (.int y :: .int x :: st) σ τ := by
  obtain ⟨p, l, e, s, m, args, below, meth, c, Q, D, K, K2, ce, sl⟩ := Y
  obtain ⟨hx, hb, hml, hown, hts, hK, hKm, hZ, rfl, rfl, rfl, rfl, hD, hDm, hdis, hXs, hbl, hce, hsl, hr, hlocks, hargs, hQ⟩ := C
  intro H locs ls hl hP hPm hS
  exact lv_isub hx hb hd (kk H locs ls hl hP hPm hS)
theorem k_iand {x y : Int32} (C : C2 hX hM Y l0 D0 K0 K1 b L xs) (hd : decode cL_law pc = .ok (.iand, 1)) (kk : G2 hX hM Y (pc + 1) lv (.int (x &&& y) :: st) σ τ) : G2 hX hM Y pc lv (.int y :: .int x :: st) σ τ := by
  obtain ⟨p, l, e, s, m, args, below, meth, c, Q, D, K, K2, ce, sl⟩ := Y
  obtain ⟨hx, hb, hml, hown, hts, hK, hKm, hZ, rfl, rfl, rfl, rfl, hD, hDm, hdis, hXs, hbl, hce, hsl, hr, hlocks, hargs, hQ⟩ := C
  intro H locs ls hl hP hPm hS
  exact lv_iand hx hb hd (kk H locs ls hl hP hPm hS)
theorem k_lcmp {x y : Int64} (C : C2 hX hM Y l0 D0 K0 K1 b L xs) (hd : decode cL_law pc = .ok (.lcmp, 1)) (kk : G2 hX hM Y (pc + 1) lv (.int (lg_cmp x y) :: st) σ τ) : G2 hX hM Y pc lv (.long y :: .long x :: st) σ τ := by
  obtain ⟨p, l, e, s, m, args, below, meth, c, Q, D, K, K2, ce, sl⟩ := Y
  obtain ⟨hx, hb, hml, hown, hts, hK, hKm, hZ, rfl, rfl, rfl, rfl, hD, hDm, hdis, hXs, hbl, hce, hsl, hr, hlocks, hargs, hQ⟩ := C
  intro H locs ls hl hP hPm hS
  exact W.lcmp hx hb hd (kk H locs ls hl hP hPm hS)
theorem k_goto {off : Int} {tgt : Nat} (C : C2 hX hM Y l0 D0 K0 K1 b L xs) (hd : decode cL_law pc = .ok (.goto off, 3)) (ht : (pc : Int) + off = (tgt : Int)) (kk : G2 hX hM Y (tgt) lv (st) σ τ) : G2 hX hM Y pc lv (st) σ τ := by
  obtain ⟨p, l, e, s, m, args, below, meth, c, Q, D, K, K2, ce, sl⟩ := Y
  obtain ⟨hx, hb, hml, hown, hts, hK, hKm, hZ, rfl, rfl, rfl, rfl, hD, hDm, hdis, hXs, hbl, hce, hsl, hr, hlocks, hargs, hQ⟩ := C
  intro H locs ls hl hP hPm hS
  exact lv_goto hx hb hd ht (kk H locs ls hl hP hPm hS)
theorem k_slen  (C : C2 hX hM Y l0 D0 K0 K1 b L xs) (hd : decode cL_law pc = .ok (.arraylength, 1)) (kk : G2 hX hM Y (pc + 1) lv (.int (nI L) :: st) σ τ) : G2 hX hM Y pc lv (.ref b :: st) σ τ := by
  obtain ⟨p, l, e, s, m, args, below, meth, c, Q, D, K, K2, ce, sl⟩ := Y
  obtain ⟨hx, hb, hml, hown, hts, hK, hKm, hZ, rfl, rfl, rfl, rfl, hD, hDm, hdis, hXs, hbl, hce, hsl, hr, hlocks, hargs, hQ⟩ := C
  intro H locs ls hl hP hPm hS
  exact va_slen hx hb hXs hbl (Nat.not_le.mpr hbl) hS hd (kk H locs ls hl hP hPm hS)
theorem k_sld {i : Int32} (C : C2 hX hM Y l0 D0 K0 K1 b L xs) (hi : vp_in i L) (hd : decode cL_law pc = .ok (.iaload, 1)) (kk : G2 hX hM Y (pc + 1) lv (.int (xs i.toNatClampNeg) :: st) σ τ) : G2 hX hM Y pc lv (.int i :: .ref b :: st) σ τ := by
  obtain ⟨p, l, e, s, m, args, below, meth, c, Q, D, K, K2, ce, sl⟩ := Y
  obtain ⟨hx, hb, hml, hown, hts, hK, hKm, hZ, rfl, rfl, rfl, rfl, hD, hDm, hdis, hXs, hbl, hce, hsl, hr, hlocks, hargs, hQ⟩ := C
  intro H locs ls hl hP hPm hS
  exact va_sld hx hb hXs hbl (Nat.not_le.mpr hbl) hS hi hd (kk H locs ls hl hP hPm hS)
theorem k_icmp_eqT {x y : Int32} {off : Int} {tgt : Nat} (C : C2 hX hM Y l0 D0 K0 K1 b L xs) (hxy : x = y) (hd : decode cL_law pc = .ok (.if_icmp .eq off, 3)) (ht : (pc : Int) + off = (tgt : Int)) (kk : G2 hX hM Y (tgt) lv (st) σ τ) : G2 hX hM Y pc lv (.int y :: .int x :: st) σ τ := by
  obtain ⟨p, l, e, s, m, args, below, meth, c, Q, D, K, K2, ce, sl⟩ := Y
  obtain ⟨hx, hb, hml, hown, hts, hK, hKm, hZ, rfl, rfl, rfl, rfl, hD, hDm, hdis, hXs, hbl, hce, hsl, hr, hlocks, hargs, hQ⟩ := C
  intro H locs ls hl hP hPm hS
  exact lv_icmp_eq hx hb hd ht (fun _ => (kk H locs ls hl hP hPm hS)) (fun z => absurd hxy z)
theorem k_if_eqT {x : Int32} {off : Int} {tgt : Nat} (C : C2 hX hM Y l0 D0 K0 K1 b L xs) (hxy : x = 0) (hd : decode cL_law pc = .ok (.ifCond .eq off, 3)) (ht : (pc : Int) + off = (tgt : Int)) (kk : G2 hX hM Y (tgt) lv (st) σ τ) : G2 hX hM Y pc lv (.int x :: st) σ τ := by
  obtain ⟨p, l, e, s, m, args, below, meth, c, Q, D, K, K2, ce, sl⟩ := Y
  obtain ⟨hx, hb, hml, hown, hts, hK, hKm, hZ, rfl, rfl, rfl, rfl, hD, hDm, hdis, hXs, hbl, hce, hsl, hr, hlocks, hargs, hQ⟩ := C
  intro H locs ls hl hP hPm hS
  exact lv_if_eq hx hb hd ht (fun _ => (kk H locs ls hl hP hPm hS)) (fun z => absurd hxy z)
theorem k_icmp_gt {x y : Int32} {off : Int} {tgt : Nat} (C : C2 hX hM Y l0 D0 K0 K1 b L xs) (hd : decode cL_law pc = .ok (.if_icmp .gt off, 3)) (ht : (pc : Int) + off = (tgt : Int)) (k1 : y < x → G2 hX hM Y tgt lv st σ τ) (k2 : ¬ y < x → G2 hX hM Y (pc + 3) lv st σ τ) : G2 hX hM Y pc lv (.int y :: .int x :: st) σ τ := by
  obtain ⟨p, l, e, s, m, args, below, meth, c, Q, D, K, K2, ce, sl⟩ := Y
  obtain ⟨hx, hb, hml, hown, hts, hK, hKm, hZ, rfl, rfl, rfl, rfl, hD, hDm, hdis, hXs, hbl, hce, hsl, hr, hlocks, hargs, hQ⟩ := C
  intro H locs ls hl hP hPm hS
  exact lv_icmp_gt hx hb hd ht (fun z => k1 z H locs ls hl hP hPm hS) (fun z => k2 z H locs ls hl hP hPm hS)
theorem k_swin {x c : Int32} {dflt lo hi off : Int} {offs : Array Int} {len tgt : Nat} (hxc : x = c) (C : C2 hX hM Y l0 D0 K0 K1 b L xs) (hd : decode cL_law pc = .ok (.tableswitch dflt lo hi offs, len)) (h1 : ¬ c.toInt < lo) (h2 : ¬ hi < c.toInt) (ho : offs[(c.toInt - lo).toNat]? = some off) (ht : (pc : Int) + off = (tgt : Int)) (kk : G2 hX hM Y tgt lv st σ τ) : G2 hX hM Y pc lv (.int x :: st) σ τ := by
  subst hxc
  obtain ⟨p, l, e, s, m, args, below, meth, c9, Q, D, K, K2, ce, sl⟩ := Y
  obtain ⟨hx, hb, hml, hown, hts, hK, hKm, hZ, rfl, rfl, rfl, rfl, hD, hDm, hdis, hXs, hbl, hce, hsl, hr, hlocks, hargs, hQ⟩ := C
  intro H locs ls hl hP hPm hS
  exact lv_tableIn hx hb hd h1 h2 ho ht (kk H locs ls hl hP hPm hS)
theorem k_swout {x : Int32} {dflt lo hi : Int} {offs : Array Int} {len tgt : Nat} (C : C2 hX hM Y l0 D0 K0 K1 b L xs) (hd : decode cL_law pc = .ok (.tableswitch dflt lo hi offs, len)) (ho : x.toInt < lo ∨ hi < x.toInt) (ht : (pc : Int) + dflt = (tgt : Int)) (kk : G2 hX hM Y tgt lv st σ τ) : G2 hX hM Y pc lv (.int x :: st) σ τ := by
  obtain ⟨p, l, e, s, m, args, below, meth, c, Q, D, K, K2, ce, sl⟩ := Y
  obtain ⟨hx, hb, hml, hown, hts, hK, hKm, hZ, rfl, rfl, rfl, rfl, hD, hDm, hdis, hXs, hbl, hce, hsl, hr, hlocks, hargs, hQ⟩ := C
  intro H locs ls hl hP hPm hS
  exact lv_tableOut hx hb hd ho ht (kk H locs ls hl hP hPm hS)
theorem k_ret1 (C : C2 hX hM Y l0 D0 K0 K1 b L xs) (hd : decode cL_law pc = .ok (.ireturn, 1)) : G2 hX hM Y pc lv [.int 1] σ τ := by
  obtain ⟨p, l, e, s, m, args, below, meth, c, Q, D, K, K2, ce, sl⟩ := Y
  obtain ⟨hx, hb, hml, hown, hts, hK, hKm, hZ, rfl, rfl, rfl, rfl, hD, hDm, hdis, hXs, hbl, hce, hsl, hr, hlocks, hargs, hQ⟩ := C
  intro H locs ls hl hP hPm hS
  subst hargs
  subst hQ
  refine va_forget (fun q hq => hS.2.2 q hq) ?_
  refine W.widen (k := 600000) (n := 7302250) hce hsl ?_
  exact lw_ret hx hb hr hlocks hd
theorem k_callXi {y : MethodName} {bytes : ByteArray} {maxL n index : Nat} {ret : Option FieldType} {ws ws' : List Cond} {rm : Room} {Cn : String} {T : u_T} {Nf ci : Nat} {ks : List Nat} {As rest : List Value} {u1 : pS} {r1 : Int32} (C : C2 hX hM Y l0 D0 K0 K1 b L xs) (hM1 : Met l0 y ws rm (va_Pc (.ref (hX 0) :: As) (pIn wX D0 K0 hX σ)) (va_Qi (fun r' u' => r' = r1 ∧ u' = u1) (pOut wX D0 K0 hX) (pA wX hX)) 0 0 (pA wX hX)) (hG : GoodIn wsL_law (wsV RL index Cn y ws)) (hw : ws = Cond.code y bytes maxL ret :: ws') (hrc : rm.cells = 0) (hrs : rm.slots = 0) (hdd : y.cls = Cn ∧ y.cls ≠ "java/lang/invoke/MethodHandle" ∧ y.cls ≠ "java/lang/invoke/VarHandle" ∧ (parseMethodDescriptor y.desc).map (fun d => d.parameters.length) = some n) (hR : rm.frames + 1 ≤ room_1.frames ∧ 8 + (maxL + 11) + rm.locals ≤ room_1.locals) (he : wX.1 0 = .inl (ci, ks)) (hc : vwCl[ci]? = some (Cn, T, Nf)) (hlen : As.length = n) (hst : st = As.reverse ++ .ref (hX 0) :: rest) (hcat : (rest.map fun v => v.category).sum ≤ 8) (hd : decode cL_law pc = .ok (.invokevirtual index, 3)) (kk : G2 hX hM Y (pc + 3) lv (.int r1 :: rest) u1 τ) : G2 hX hM Y pc lv st σ τ := by
  obtain ⟨p, l, e, s, m, args, below, meth, c, Q, D, K, K2, ce, sl⟩ := Y
  obtain ⟨hx, hb, hml, hown, hts, hK, hKm, hZ, rfl, rfl, rfl, rfl, hD, hDm, hdis, hXs, hbl, hce, hsl, hr, hlocks, hargs, hQ⟩ := C
  intro H locs ls hl hP hPm hS
  have hDu := wld_D (σ' := σ) hD
  have hA : ∀ q, pA wX hX q → s.heap.size ≤ q := fun q z => by obtain ⟨e1, he1, rfl⟩ := z; exact hDu.2 e1 _ (wld_at he1)
  have hN : 0 < wX.2.1 := by decide
  have hcell : (wld wX K hX σ)[0]? = some (hX 0, .inr (ci, pobj hX σ 0 ks)) := by rw [wld_at hN, pcell, he]
  refine va_calli (va_runV (As := As) (rest := rest) ⟨hx, hb, hml, hown, hts⟩ hM1 (cwV n hts hG hw hrc hrs hdd hR) ⟨pIn_blind, va_recv hK hP hc hcell, pIn_call hP hDu hK hZ hS hA⟩ rfl hlen hl.1 hst (lv_room hcat) hd ⟨hce, hsl⟩) hS (fun q _ z => hA q z) hA (fun r u t H1 locs1 ht hvm hw hB hz1 hk1 hS => ?_)
  obtain ⟨rfl, rfl⟩ := hw
  unfold pOut at hB
  rw [ht] at hB
  have hPo : va_P D vwCl (wld wM K2 hM τ) H1 := hPm.kept (fun k9 q hk => by
    have hlt := (hPm k9 q hk).lt
    obtain ⟨hk9, rfl⟩ := wld_get hk
    exact hk1 _ hlt (fun ⟨e1, he1, z⟩ => hdis e1 k9 he1 hk9 z.symm))
  exact kk H1 locs1 ls hl hB hPo hS
theorem k_callXl {y : MethodName} {bytes : ByteArray} {maxL n index : Nat} {ret : Option FieldType} {ws ws' : List Cond} {rm : Room} {Cn : String} {T : u_T} {Nf ci : Nat} {ks : List Nat} {As rest : List Value} {u1 : pS} {r1 : Int64} (C : C2 hX hM Y l0 D0 K0 K1 b L xs) (hM1 : Met l0 y ws rm (va_Pc (.ref (hX 0) :: As) (pIn wX D0 K0 hX σ)) (va_Ql (fun r' u' => r' = r1 ∧ u' = u1) (pOut wX D0 K0 hX) (pA wX hX)) 0 0 (pA wX hX)) (hG : GoodIn wsL_law (wsV RL index Cn y ws)) (hw : ws = Cond.code y bytes maxL ret :: ws') (hrc : rm.cells = 0) (hrs : rm.slots = 0) (hdd : y.cls = Cn ∧ y.cls ≠ "java/lang/invoke/MethodHandle" ∧ y.cls ≠ "java/lang/invoke/VarHandle" ∧ (parseMethodDescriptor y.desc).map (fun d => d.parameters.length) = some n) (hR : rm.frames + 1 ≤ room_1.frames ∧ 8 + (maxL + 11) + rm.locals ≤ room_1.locals) (he : wX.1 0 = .inl (ci, ks)) (hc : vwCl[ci]? = some (Cn, T, Nf)) (hlen : As.length = n) (hst : st = As.reverse ++ .ref (hX 0) :: rest) (hcat : (rest.map fun v => v.category).sum ≤ 8) (hd : decode cL_law pc = .ok (.invokevirtual index, 3)) (kk : G2 hX hM Y (pc + 3) lv (.long r1 :: rest) u1 τ) : G2 hX hM Y pc lv st σ τ := by
  obtain ⟨p, l, e, s, m, args, below, meth, c, Q, D, K, K2, ce, sl⟩ := Y
  obtain ⟨hx, hb, hml, hown, hts, hK, hKm, hZ, rfl, rfl, rfl, rfl, hD, hDm, hdis, hXs, hbl, hce, hsl, hr, hlocks, hargs, hQ⟩ := C
  intro H locs ls hl hP hPm hS
  have hDu := wld_D (σ' := σ) hD
  have hA : ∀ q, pA wX hX q → s.heap.size ≤ q := fun q z => by obtain ⟨e1, he1, rfl⟩ := z; exact hDu.2 e1 _ (wld_at he1)
  have hN : 0 < wX.2.1 := by decide
  have hcell : (wld wX K hX σ)[0]? = some (hX 0, .inr (ci, pobj hX σ 0 ks)) := by rw [wld_at hN, pcell, he]
  refine va_calll (va_runV (As := As) (rest := rest) ⟨hx, hb, hml, hown, hts⟩ hM1 (cwV n hts hG hw hrc hrs hdd hR) ⟨pIn_blind, va_recv hK hP hc hcell, pIn_call hP hDu hK hZ hS hA⟩ rfl hlen hl.1 hst (lv_room hcat) hd ⟨hce, hsl⟩) hS (fun q _ z => hA q z) hA (fun r u t H1 locs1 ht hvm hw hB hz1 hk1 hS => ?_)
  obtain ⟨rfl, rfl⟩ := hw
  unfold pOut at hB
  rw [ht] at hB
  have hPo : va_P D vwCl (wld wM K2 hM τ) H1 := hPm.kept (fun k9 q hk => by
    have hlt := (hPm k9 q hk).lt
    obtain ⟨hk9, rfl⟩ := wld_get hk
    exact hk1 _ hlt (fun ⟨e1, he1, z⟩ => hdis e1 k9 he1 hk9 z.symm))
  exact kk H1 locs1 ls hl hB hPo hS
theorem k_callMi {y : MethodName} {bytes : ByteArray} {maxL n index : Nat} {ret : Option FieldType} {ws ws' : List Cond} {rm : Room} {Cn : String} {T : u_T} {Nf ci : Nat} {ks : List Nat} {As rest : List Value} {u1 : pS} {r1 : Int32} (C : C2 hX hM Y l0 D0 K0 K1 b L xs) (hM1 : Met l0 y ws rm (va_Pc (.ref (hM 0) :: As) (pIn wM D0 K1 hM τ)) (va_Qi (fun r' u' => r' = r1 ∧ u' = u1) (pOut wM D0 K1 hM) (pA wM hM)) 0 0 (pA wM hM)) (hG : GoodIn wsL_law (wsV RL index Cn y ws)) (hw : ws = Cond.code y bytes maxL ret :: ws') (hrc : rm.cells = 0) (hrs : rm.slots = 0) (hdd : y.cls = Cn ∧ y.cls ≠ "java/lang/invoke/MethodHandle" ∧ y.cls ≠ "java/lang/invoke/VarHandle" ∧ (parseMethodDescriptor y.desc).map (fun d => d.parameters.length) = some n) (hR : rm.frames + 1 ≤ room_1.frames ∧ 8 + (maxL + 11) + rm.locals ≤ room_1.locals) (he : wM.1 0 = .inl (ci, ks)) (hc : vwCl[ci]? = some (Cn, T, Nf)) (hlen : As.length = n) (hst : st = As.reverse ++ .ref (hM 0) :: rest) (hcat : (rest.map fun v => v.category).sum ≤ 8) (hd : decode cL_law pc = .ok (.invokevirtual index, 3)) (kk : G2 hX hM Y (pc + 3) lv (.int r1 :: rest) σ u1) : G2 hX hM Y pc lv st σ τ := by
  obtain ⟨p, l, e, s, m, args, below, meth, c, Q, D, K, K2, ce, sl⟩ := Y
  obtain ⟨hx, hb, hml, hown, hts, hK, hKm, hZ, rfl, rfl, rfl, rfl, hD, hDm, hdis, hXs, hbl, hce, hsl, hr, hlocks, hargs, hQ⟩ := C
  intro H locs ls hl hP hPm hS
  have hDu := wld_D (σ' := τ) hDm
  have hA : ∀ q, pA wM hM q → s.heap.size ≤ q := fun q z => by obtain ⟨e1, he1, rfl⟩ := z; exact hDu.2 e1 _ (wld_at he1)
  have hN : 0 < wM.2.1 := by decide
  have hcell : (wld wM K2 hM τ)[0]? = some (hM 0, .inr (ci, pobj hM τ 0 ks)) := by rw [wld_at hN, pcell, he]
  refine va_calli (va_runV (As := As) (rest := rest) ⟨hx, hb, hml, hown, hts⟩ hM1 (cwV n hts hG hw hrc hrs hdd hR) ⟨pIn_blind, va_recv hKm hPm hc hcell, pIn_call hPm hDu hKm (fun z => by cases z) hS hA⟩ rfl hlen hl.1 hst (lv_room hcat) hd ⟨hce, hsl⟩) hS (fun q _ z => hA q z) hA (fun r u t H1 locs1 ht hvm hw hB hz1 hk1 hS => ?_)
  obtain ⟨rfl, rfl⟩ := hw
  unfold pOut at hB
  rw [ht] at hB
  have hPo : va_P D vwCl (wld wX K hX σ) H1 := hP.kept (fun k9 q hk => by
    have hlt := (hP k9 q hk).lt
    obtain ⟨hk9, rfl⟩ := wld_get hk
    exact hk1 _ hlt (fun ⟨e1, he1, z⟩ => hdis k9 e1 hk9 he1 z))
  exact kk H1 locs1 ls hl hPo hB hS
theorem k_callMl {y : MethodName} {bytes : ByteArray} {maxL n index : Nat} {ret : Option FieldType} {ws ws' : List Cond} {rm : Room} {Cn : String} {T : u_T} {Nf ci : Nat} {ks : List Nat} {As rest : List Value} {u1 : pS} {r1 : Int64} (C : C2 hX hM Y l0 D0 K0 K1 b L xs) (hM1 : Met l0 y ws rm (va_Pc (.ref (hM 0) :: As) (pIn wM D0 K1 hM τ)) (va_Ql (fun r' u' => r' = r1 ∧ u' = u1) (pOut wM D0 K1 hM) (pA wM hM)) 0 0 (pA wM hM)) (hG : GoodIn wsL_law (wsV RL index Cn y ws)) (hw : ws = Cond.code y bytes maxL ret :: ws') (hrc : rm.cells = 0) (hrs : rm.slots = 0) (hdd : y.cls = Cn ∧ y.cls ≠ "java/lang/invoke/MethodHandle" ∧ y.cls ≠ "java/lang/invoke/VarHandle" ∧ (parseMethodDescriptor y.desc).map (fun d => d.parameters.length) = some n) (hR : rm.frames + 1 ≤ room_1.frames ∧ 8 + (maxL + 11) + rm.locals ≤ room_1.locals) (he : wM.1 0 = .inl (ci, ks)) (hc : vwCl[ci]? = some (Cn, T, Nf)) (hlen : As.length = n) (hst : st = As.reverse ++ .ref (hM 0) :: rest) (hcat : (rest.map fun v => v.category).sum ≤ 8) (hd : decode cL_law pc = .ok (.invokevirtual index, 3)) (kk : G2 hX hM Y (pc + 3) lv (.long r1 :: rest) σ u1) : G2 hX hM Y pc lv st σ τ := by
  obtain ⟨p, l, e, s, m, args, below, meth, c, Q, D, K, K2, ce, sl⟩ := Y
  obtain ⟨hx, hb, hml, hown, hts, hK, hKm, hZ, rfl, rfl, rfl, rfl, hD, hDm, hdis, hXs, hbl, hce, hsl, hr, hlocks, hargs, hQ⟩ := C
  intro H locs ls hl hP hPm hS
  have hDu := wld_D (σ' := τ) hDm
  have hA : ∀ q, pA wM hM q → s.heap.size ≤ q := fun q z => by obtain ⟨e1, he1, rfl⟩ := z; exact hDu.2 e1 _ (wld_at he1)
  have hN : 0 < wM.2.1 := by decide
  have hcell : (wld wM K2 hM τ)[0]? = some (hM 0, .inr (ci, pobj hM τ 0 ks)) := by rw [wld_at hN, pcell, he]
  refine va_calll (va_runV (As := As) (rest := rest) ⟨hx, hb, hml, hown, hts⟩ hM1 (cwV n hts hG hw hrc hrs hdd hR) ⟨pIn_blind, va_recv hKm hPm hc hcell, pIn_call hPm hDu hKm (fun z => by cases z) hS hA⟩ rfl hlen hl.1 hst (lv_room hcat) hd ⟨hce, hsl⟩) hS (fun q _ z => hA q z) hA (fun r u t H1 locs1 ht hvm hw hB hz1 hk1 hS => ?_)
  obtain ⟨rfl, rfl⟩ := hw
  unfold pOut at hB
  rw [ht] at hB
  have hPo : va_P D vwCl (wld wX K hX σ) H1 := hP.kept (fun k9 q hk => by
    have hlt := (hP k9 q hk).lt
    obtain ⟨hk9, rfl⟩ := wld_get hk
    exact hk1 _ hlt (fun ⟨e1, he1, z⟩ => hdis k9 e1 hk9 he1 z))
  exact kk H1 locs1 ls hl hPo hB hS
end G2R
