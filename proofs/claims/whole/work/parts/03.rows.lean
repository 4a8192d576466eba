/-! rows of the judgement G: pure steps; what the pure function says (hf) drives branches and guards -/
def plet {α β : Type} (v : α) (k : α → β) : β := k v
def pbind {α ρ : Type} (o : Option (α × pS)) (k : α → pS → Option ρ) : Option ρ := match o with
  | none => none
  | some (a, s) => k a s
def pin (i : Int32) (n : Nat) : Bool := !(decide (i < 0)) && decide (i.toNatClampNeg < n)
theorem pin_in {i : Int32} {n : Nat} (h : pin i n = true) : vp_in i n := by
  simp only [pin, Bool.and_eq_true, Bool.not_eq_true', decide_eq_false_iff_not, decide_eq_true_eq] at h
  exact fun q => q.elim h.1 (fun z => absurd h.2 (Nat.not_lt.mpr z))
def alen (w : pW) (e : Nat) : Nat := match w.1 e with
  | .inl _ => 0
  | .inr (_, n, _) => n
def isA (w : pW) (kd e : Nat) : Bool := (match w.1 e with
  | .inl _ => false
  | .inr (k, _, _) => k == kd) && decide (e < w.2.1)
theorem isA_spec {w : pW} {kd e : Nat} (h : isA w kd e = true) : ∃ b, w.1 e = .inr (kd, alen w e, b) ∧ e < w.2.1 := by
  simp only [isA, Bool.and_eq_true, decide_eq_true_eq] at h
  unfold alen
  cases hq : w.1 e with
  | inl a => rw [hq] at h; simp at h
  | inr a =>
    obtain ⟨k, n, b⟩ := a
    rw [hq] at h
    simp at h
    exact ⟨b, by rw [h.1], h.2⟩
theorem g_lets {w : pW} {h : Nat → Nat} {X : Cx} {pc : Nat} {lv : List (Nat × Value)} {st : List Value} {v : pS} {ρ : Type} {rs : ρ} {k : pS → Option ρ} (hf : plet v k = some rs) (kk : ∀ z, k z = some rs → G w h X pc lv st z) : G w h X pc lv st v := kk v hf
theorem g_leti {w : pW} {h : Nat → Nat} {X : Cx} {pc : Nat} {lv : List (Nat × Value)} {st : List Value} {σ : pS} {v : Int32} {ρ : Type} {rs : ρ} {k : Int32 → Option ρ} (hf : plet v k = some rs) (kk : ∀ z, k z = some rs → G w h X pc lv (.int z :: st) σ) : G w h X pc lv (.int v :: st) σ := kk v hf
theorem g_letl {w : pW} {h : Nat → Nat} {X : Cx} {pc : Nat} {lv : List (Nat × Value)} {st : List Value} {σ : pS} {v : Int64} {ρ : Type} {rs : ρ} {k : Int64 → Option ρ} (hf : plet v k = some rs) (kk : ∀ z, k z = some rs → G w h X pc lv (.long z :: st) σ) : G w h X pc lv (.long v :: st) σ := kk v hf
theorem g_letr {w : pW} {h : Nat → Nat} {X : Cx} {pc : Nat} {lv : List (Nat × Value)} {st : List Value} {σ : pS} {v : Nat} {ρ : Type} {rs : ρ} {k : Nat → Option ρ} (hf : plet v k = some rs) (kk : ∀ z, k z = some rs → G w h X pc lv (.ref (h z) :: st) σ) : G w h X pc lv (.ref (h v) :: st) σ := kk v hf
theorem g_join {α ρ : Type} {J : α} {rest : α → Option ρ} {rs : ρ} {P : α → Prop} {goal : Prop} (hf : plet J rest = some rs) (hP : P J) (kk : ∀ j, P j → rest j = some rs → goal) : goal := kk J hP hf
theorem g_guard {ρ : Type} {b : Bool} {A : Option ρ} {rs : ρ} (hf : (if b then A else none) = some rs) : b = true ∧ A = some rs := by
  cases b with
  | false => simp at hf
  | true => exact ⟨rfl, by simpa using hf⟩
theorem g_bind {α ρ : Type} {o : Option α} {k : α → Option ρ} {rs : ρ} (hf : o.bind k = some rs) : ∃ a, o = some a ∧ k a = some rs := by
  cases o with
  | none => simp at hf
  | some a => exact ⟨a, rfl, hf⟩
theorem g_pbind {α ρ : Type} {o : Option (α × pS)} {k : α → pS → Option ρ} {rs : ρ} (hf : pbind o k = some rs) : ∃ a s, o = some (a, s) ∧ k a s = some rs := by
  cases o with
  | none => simp [pbind] at hf
  | some a => exact ⟨a.1, a.2, rfl, hf⟩
section GR
variable {w : pW} {h : Nat → Nat} {X : Cx} {l0 : Launch} {R0 : Room} {D0 : va_G} {K0 : Nat → ClassId} {cc : ByteArray} {n0 : Nat} {own : String} {Ts : List Cond} {pc : Nat} {lv : List (Nat × Value)} {st : List Value} {σ : pS}
theorem g_iconst {n : Int} {v : Int32} (C : Cok w h X l0 R0 D0 K0 cc n0 own Ts) (hd : decode cc pc = .ok (.iconst n, 1)) (hv : Int32.ofInt n = v) (kk : G w h X (pc + 1) lv (.int v :: st) (σ)) : G w h X pc lv (st) σ := by
  obtain ⟨p, l, e, R, s, m, args, below, meth, c, Q, A, D, K, nL⟩ := X
  obtain ⟨hx, hb, hml, hown, hts, hK, hZ, rfl, rfl, rfl, rfl, rfl, hA⟩ := C
  intro H locs ls hl hP hD hS
  exact lv_iconst hx hb hd hv (kk H locs ls hl hP hD hS)
theorem g_bipush {n : Int} {v : Int32} (C : Cok w h X l0 R0 D0 K0 cc n0 own Ts) (hd : decode cc pc = .ok (.bipush n, 2)) (hv : (Int8.ofInt n).toInt32 = v) (kk : G w h X (pc + 2) lv (.int v :: st) (σ)) : G w h X pc lv (st) σ := by
  obtain ⟨p, l, e, R, s, m, args, below, meth, c, Q, A, D, K, nL⟩ := X
  obtain ⟨hx, hb, hml, hown, hts, hK, hZ, rfl, rfl, rfl, rfl, rfl, hA⟩ := C
  intro H locs ls hl hP hD hS
  exact lv_bipush hx hb hd hv (kk H locs ls hl hP hD hS)
theorem g_sipush {n : Int} {v : Int32} (C : Cok w h X l0 R0 D0 K0 cc n0 own Ts) (hd : decode cc pc = .ok (.sipush n, 3)) (hv : (Int16.ofInt n).toInt32 = v) (kk : G w h X (pc + 3) lv (.int v :: st) (σ)) : G w h X pc lv (st) σ := by
  obtain ⟨p, l, e, R, s, m, args, below, meth, c, Q, A, D, K, nL⟩ := X
  obtain ⟨hx, hb, hml, hown, hts, hK, hZ, rfl, rfl, rfl, rfl, rfl, hA⟩ := C
  intro H locs ls hl hP hD hS
  exact lv_sipush hx hb hd hv (kk H locs ls hl hP hD hS)
theorem g_lconst {n : Fin 2} {v : Int64} (C : Cok w h X l0 R0 D0 K0 cc n0 own Ts) (hd : decode cc pc = .ok (.lconst n, 1)) (hv : Int64.ofNat (n : Nat) = v) (kk : G w h X (pc + 1) lv (.long v :: st) (σ)) : G w h X pc lv (st) σ := by
  obtain ⟨p, l, e, R, s, m, args, below, meth, c, Q, A, D, K, nL⟩ := X
  obtain ⟨hx, hb, hml, hown, hts, hK, hZ, rfl, rfl, rfl, rfl, rfl, hA⟩ := C
  intro H locs ls hl hP hD hS
  exact lv_lconst hx hb hd hv (kk H locs ls hl hP hD hS)
theorem g_ldc {index : Nat} {v : Int32} (C : Cok w h X l0 R0 D0 K0 cc n0 own Ts) (hc : Cond.constant own index v ∈ Ts) (hd : decode cc pc = .ok (.ldc index, 2)) (kk : G w h X (pc + 2) lv (.int v :: st) (σ)) : G w h X pc lv (st) σ := by
  obtain ⟨p, l, e, R, s, m, args, below, meth, c, Q, A, D, K, nL⟩ := X
  obtain ⟨hx, hb, hml, hown, hts, hK, hZ, rfl, rfl, rfl, rfl, rfl, hA⟩ := C
  intro H locs ls hl hP hD hS
  exact lv_ldc hx hb hown (hts _ hc) hd (kk H locs ls hl hP hD hS)
theorem g_ldcw {index : Nat} {v : Int32} (C : Cok w h X l0 R0 D0 K0 cc n0 own Ts) (hc : Cond.constant own index v ∈ Ts) (hd : decode cc pc = .ok (.ldc_w index, 3)) (kk : G w h X (pc + 3) lv (.int v :: st) (σ)) : G w h X pc lv (st) σ := by
  obtain ⟨p, l, e, R, s, m, args, below, meth, c, Q, A, D, K, nL⟩ := X
  obtain ⟨hx, hb, hml, hown, hts, hK, hZ, rfl, rfl, rfl, rfl, rfl, hA⟩ := C
  intro H locs ls hl hP hD hS
  exact lv_ldcw hx hb hown (hts _ hc) hd (kk H locs ls hl hP hD hS)
theorem g_ldc2 {index : Nat} {v : Int64} (C : Cok w h X l0 R0 D0 K0 cc n0 own Ts) (hc : Cond.constantLong own index v ∈ Ts) (hd : decode cc pc = .ok (.ldc2_w index, 3)) (kk : G w h X (pc + 3) lv (.long v :: st) (σ)) : G w h X pc lv (st) σ := by
  obtain ⟨p, l, e, R, s, m, args, below, meth, c, Q, A, D, K, nL⟩ := X
  obtain ⟨hx, hb, hml, hown, hts, hK, hZ, rfl, rfl, rfl, rfl, rfl, hA⟩ := C
  intro H locs ls hl hP hD hS
  exact lv_ldc2 hx hb hown (hts _ hc) hd (kk H locs ls hl hP hD hS)
theorem g_iload_n {k : Fin 4} {i : Nat} {x : Int32} (C : Cok w h X l0 R0 D0 K0 cc n0 own Ts) (j : Nat) (hd : decode cc pc = .ok (.iload_n k, 1)) (hi : (k : Nat) = i) (hk : lv[j]? = some (i, .int x)) (kk : G w h X (pc + 1) lv (.int x :: st) (σ)) : G w h X pc lv (st) σ := by
  obtain ⟨p, l, e, R, s, m, args, below, meth, c, Q, A, D, K, nL⟩ := X
  obtain ⟨hx, hb, hml, hown, hts, hK, hZ, rfl, rfl, rfl, rfl, rfl, hA⟩ := C
  intro H locs ls hl hP hD hS
  exact lv_iload_n hx hb hd hi (lv_at hl j hk) (kk H locs ls hl hP hD hS)
theorem g_iload {i : Nat} {x : Int32} (C : Cok w h X l0 R0 D0 K0 cc n0 own Ts) (j : Nat) (hd : decode cc pc = .ok (.iload i, 2)) (hk : lv[j]? = some (i, .int x)) (kk : G w h X (pc + 2) lv (.int x :: st) (σ)) : G w h X pc lv (st) σ := by
  obtain ⟨p, l, e, R, s, m, args, below, meth, c, Q, A, D, K, nL⟩ := X
  obtain ⟨hx, hb, hml, hown, hts, hK, hZ, rfl, rfl, rfl, rfl, rfl, hA⟩ := C
  intro H locs ls hl hP hD hS
  exact lv_iload hx hb hd (lv_at hl j hk) (kk H locs ls hl hP hD hS)
theorem g_lload_n {k : Fin 4} {i : Nat} {x : Int64} (C : Cok w h X l0 R0 D0 K0 cc n0 own Ts) (j : Nat) (hd : decode cc pc = .ok (.lload_n k, 1)) (hi : (k : Nat) = i) (hk : lv[j]? = some (i, .long x)) (kk : G w h X (pc + 1) lv (.long x :: st) (σ)) : G w h X pc lv (st) σ := by
  obtain ⟨p, l, e, R, s, m, args, below, meth, c, Q, A, D, K, nL⟩ := X
  obtain ⟨hx, hb, hml, hown, hts, hK, hZ, rfl, rfl, rfl, rfl, rfl, hA⟩ := C
  intro H locs ls hl hP hD hS
  exact lv_lload_n hx hb hd hi (lv_at hl j hk) (kk H locs ls hl hP hD hS)
theorem g_lload {i : Nat} {x : Int64} (C : Cok w h X l0 R0 D0 K0 cc n0 own Ts) (j : Nat) (hd : decode cc pc = .ok (.lload i, 2)) (hk : lv[j]? = some (i, .long x)) (kk : G w h X (pc + 2) lv (.long x :: st) (σ)) : G w h X pc lv (st) σ := by
  obtain ⟨p, l, e, R, s, m, args, below, meth, c, Q, A, D, K, nL⟩ := X
  obtain ⟨hx, hb, hml, hown, hts, hK, hZ, rfl, rfl, rfl, rfl, rfl, hA⟩ := C
  intro H locs ls hl hP hD hS
  exact lv_lload hx hb hd (lv_at hl j hk) (kk H locs ls hl hP hD hS)
theorem g_aload_n {k : Fin 4} {i : Nat} {x : Nat} (C : Cok w h X l0 R0 D0 K0 cc n0 own Ts) (j : Nat) (hd : decode cc pc = .ok (.aload_n k, 1)) (hi : (k : Nat) = i) (hk : lv[j]? = some (i, .ref x)) (kk : G w h X (pc + 1) lv (.ref x :: st) (σ)) : G w h X pc lv (st) σ := by
  obtain ⟨p, l, e, R, s, m, args, below, meth, c, Q, A, D, K, nL⟩ := X
  obtain ⟨hx, hb, hml, hown, hts, hK, hZ, rfl, rfl, rfl, rfl, rfl, hA⟩ := C
  intro H locs ls hl hP hD hS
  exact lv_aload_n hx hb hd hi (lv_at hl j hk) (kk H locs ls hl hP hD hS)
theorem g_aload {i : Nat} {x : Nat} (C : Cok w h X l0 R0 D0 K0 cc n0 own Ts) (j : Nat) (hd : decode cc pc = .ok (.aload i, 2)) (hk : lv[j]? = some (i, .ref x)) (kk : G w h X (pc + 2) lv (.ref x :: st) (σ)) : G w h X pc lv (st) σ := by
  obtain ⟨p, l, e, R, s, m, args, below, meth, c, Q, A, D, K, nL⟩ := X
  obtain ⟨hx, hb, hml, hown, hts, hK, hZ, rfl, rfl, rfl, rfl, rfl, hA⟩ := C
  intro H locs ls hl hP hD hS
  exact lv_aload hx hb hd (lv_at hl j hk) (kk H locs ls hl hP hD hS)
theorem g_istore_n {k : Fin 4} {i : Nat} {x : Int32} {lv' : List (Nat × Value)} (C : Cok w h X l0 R0 D0 K0 cc n0 own Ts) (ks : List Nat) (hd : decode cc pc = .ok (.istore_n k, 1)) (hi : (k : Nat) = i) (hn : i < n0) (hk : lv_pick ((i, .int x) :: lv.filter (fun q => !(q.1 == i) && !(q.1 + 1 == i && q.2.category == 2))) ks = lv') (kk : G w h X (pc + 1) lv' (st) (σ)) : G w h X pc lv (.int x :: st) σ := by
  obtain ⟨p, l, e, R, s, m, args, below, meth, c, Q, A, D, K, nL⟩ := X
  obtain ⟨hx, hb, hml, hown, hts, hK, hZ, rfl, rfl, rfl, rfl, rfl, hA⟩ := C
  intro H locs ls hl hP hD hS
  exact lv_istore_n hx hb hd hi hl hn rfl (fun ls' hl' => kk H locs ls' (lv_sub hl' ks hk) hP hD hS)
theorem g_istore {i : Nat} {x : Int32} {lv' : List (Nat × Value)} (C : Cok w h X l0 R0 D0 K0 cc n0 own Ts) (ks : List Nat) (hd : decode cc pc = .ok (.istore i, 2)) (hn : i < n0) (hk : lv_pick ((i, .int x) :: lv.filter (fun q => !(q.1 == i) && !(q.1 + 1 == i && q.2.category == 2))) ks = lv') (kk : G w h X (pc + 2) lv' (st) (σ)) : G w h X pc lv (.int x :: st) σ := by
  obtain ⟨p, l, e, R, s, m, args, below, meth, c, Q, A, D, K, nL⟩ := X
  obtain ⟨hx, hb, hml, hown, hts, hK, hZ, rfl, rfl, rfl, rfl, rfl, hA⟩ := C
  intro H locs ls hl hP hD hS
  exact lv_istore hx hb hd hl hn rfl (fun ls' hl' => kk H locs ls' (lv_sub hl' ks hk) hP hD hS)
theorem g_lstore_n {k : Fin 4} {i : Nat} {x : Int64} {lv' : List (Nat × Value)} (C : Cok w h X l0 R0 D0 K0 cc n0 own Ts) (ks : List Nat) (hd : decode cc pc = .ok (.lstore_n k, 1)) (hi : (k : Nat) = i) (hn : i + 1 < n0) (hk : lv_pick ((i, .long x) :: lv.filter (fun q => !(q.1 == i) && (!(q.1 == i + 1) && !(q.1 + 1 == i && q.2.category == 2)))) ks = lv') (kk : G w h X (pc + 1) lv' (st) (σ)) : G w h X pc lv (.long x :: st) σ := by
  obtain ⟨p, l, e, R, s, m, args, below, meth, c, Q, A, D, K, nL⟩ := X
  obtain ⟨hx, hb, hml, hown, hts, hK, hZ, rfl, rfl, rfl, rfl, rfl, hA⟩ := C
  intro H locs ls hl hP hD hS
  exact lv_lstore_n hx hb hd hi hl hn rfl (fun ls' hl' => kk H locs ls' (lv_sub hl' ks hk) hP hD hS)
theorem g_lstore {i : Nat} {x : Int64} {lv' : List (Nat × Value)} (C : Cok w h X l0 R0 D0 K0 cc n0 own Ts) (ks : List Nat) (hd : decode cc pc = .ok (.lstore i, 2)) (hn : i + 1 < n0) (hk : lv_pick ((i, .long x) :: lv.filter (fun q => !(q.1 == i) && (!(q.1 == i + 1) && !(q.1 + 1 == i && q.2.category == 2)))) ks = lv') (kk : G w h X (pc + 2) lv' (st) (σ)) : G w h X pc lv (.long x :: st) σ := by
  obtain ⟨p, l, e, R, s, m, args, below, meth, c, Q, A, D, K, nL⟩ := X
  obtain ⟨hx, hb, hml, hown, hts, hK, hZ, rfl, rfl, rfl, rfl, rfl, hA⟩ := C
  intro H locs ls hl hP hD hS
  exact lv_lstore hx hb hd hl hn rfl (fun ls' hl' => kk H locs ls' (lv_sub hl' ks hk) hP hD hS)
theorem g_astore_n {k : Fin 4} {i : Nat} {x : Nat} {lv' : List (Nat × Value)} (C : Cok w h X l0 R0 D0 K0 cc n0 own Ts) (ks : List Nat) (hd : decode cc pc = .ok (.astore_n k, 1)) (hi : (k : Nat) = i) (hn : i < n0) (hk : lv_pick ((i, .ref x) :: lv.filter (fun q => !(q.1 == i) && !(q.1 + 1 == i && q.2.category == 2))) ks = lv') (kk : G w h X (pc + 1) lv' (st) (σ)) : G w h X pc lv (.ref x :: st) σ := by
  obtain ⟨p, l, e, R, s, m, args, below, meth, c, Q, A, D, K, nL⟩ := X
  obtain ⟨hx, hb, hml, hown, hts, hK, hZ, rfl, rfl, rfl, rfl, rfl, hA⟩ := C
  intro H locs ls hl hP hD hS
  exact lv_astore_n hx hb hd hi hl hn rfl (fun ls' hl' => kk H locs ls' (lv_sub hl' ks hk) hP hD hS)
theorem g_astore {i : Nat} {x : Nat} {lv' : List (Nat × Value)} (C : Cok w h X l0 R0 D0 K0 cc n0 own Ts) (ks : List Nat) (hd : decode cc pc = .ok (.astore i, 2)) (hn : i < n0) (hk : lv_pick ((i, .ref x) :: lv.filter (fun q => !(q.1 == i) && !(q.1 + 1 == i && q.2.category == 2))) ks = lv') (kk : G w h X (pc + 2) lv' (st) (σ)) : G w h X pc lv (.ref x :: st) σ := by
  obtain ⟨p, l, e, R, s, m, args, below, meth, c, Q, A, D, K, nL⟩ := X
  obtain ⟨hx, hb, hml, hown, hts, hK, hZ, rfl, rfl, rfl, rfl, rfl, hA⟩ := C
  intro H locs ls hl hP hD hS
  exact lv_astore hx hb hd hl hn rfl (fun ls' hl' => kk H locs ls' (lv_sub hl' ks hk) hP hD hS)
theorem g_iinc {i : Nat} {n : Int} {x c : Int32} {lv' : List (Nat × Value)} (C : Cok w h X l0 R0 D0 K0 cc n0 own Ts) (j : Nat) (ks : List Nat) (hd : decode cc pc = .ok (.iinc i n, 3)) (hj : lv[j]? = some (i, .int x)) (hv : Int32.ofInt n = c) (hn : i < n0) (hk : lv_pick ((i, .int (x + c)) :: lv.filter (fun q => !(q.1 == i) && !(q.1 + 1 == i && q.2.category == 2))) ks = lv') (kk : G w h X (pc + 3) lv' (st) (σ)) : G w h X pc lv (st) σ := by
  obtain ⟨p, l, e, R, s, m, args, below, meth, c, Q, A, D, K, nL⟩ := X
  obtain ⟨hx, hb, hml, hown, hts, hK, hZ, rfl, rfl, rfl, rfl, rfl, hA⟩ := C
  intro H locs ls hl hP hD hS
  exact lv_iinc hx hb hd hl hj (by rw [hv]) hn rfl (fun ls' hl' => kk H locs ls' (lv_sub hl' ks hk) hP hD hS)
theorem g_iadd {x y : Int32} (C : Cok w h X l0 R0 D0 K0 cc n0 own Ts) (hd : decode cc pc = .ok (.iadd, 1)) (kk : G w h X (pc + 1) lv (.int (x + y) :: st) (σ)) : G w h X pc lv (.int y :: .int x :: st) σ := by
  obtain ⟨p, l, e, R, s, m, args, below, meth, c, Q, A, D, K, nL⟩ := X
  obtain ⟨hx, hb, hml, hown, hts, hK, hZ, rfl, rfl, rfl, rfl, rfl, hA⟩ := C
  intro H locs ls hl hP hD hS
  exact lv_iadd hx hb hd (kk H locs ls hl hP hD hS)
theorem g_isub {x y : Int32} (C : Cok w h X l0 R0 D0 K0 cc n0 own Ts) (hd : decode cc pc = .ok (.isub, 1)) (kk : G w h X (pc + 1) lv (.int (x - y) :: st) (σ)) : G w h X pc lv (.int y :: .int x :: st) σ := by
  obtain ⟨p, l, e, R, s, m, args, below, meth, c, Q, A, D, K, nL⟩ := X
  obtain ⟨hx, hb, hml, hown, hts, hK, hZ, rfl, rfl, rfl, rfl, rfl, hA⟩ := C
  intro H locs ls hl hP hD hS
  exact lv_isub hx hb hd (kk H locs ls hl hP hD hS)
theorem g_imul {x y : Int32} (C : Cok w h X l0 R0 D0 K0 cc n0 own Ts) (hd : decode cc pc = .ok (.imul, 1)) (kk : G w h X (pc + 1) lv (.int (x * y) :: st) (σ)) : G w h X pc lv (.int y :: .int x :: st) σ := by
  obtain ⟨p, l, e, R, s, m, args, below, meth, c, Q, A, D, K, nL⟩ := X
  obtain ⟨hx, hb, hml, hown, hts, hK, hZ, rfl, rfl, rfl, rfl, rfl, hA⟩ := C
  intro H locs ls hl hP hD hS
  exact lv_imul hx hb hd (kk H locs ls hl hP hD hS)
theorem g_iand {x y : Int32} (C : Cok w h X l0 R0 D0 K0 cc n0 own Ts) (hd : decode cc pc = .ok (.iand, 1)) (kk : G w h X (pc + 1) lv (.int (x &&& y) :: st) (σ)) : G w h X pc lv (.int y :: .int x :: st) σ := by
  obtain ⟨p, l, e, R, s, m, args, below, meth, c, Q, A, D, K, nL⟩ := X
  obtain ⟨hx, hb, hml, hown, hts, hK, hZ, rfl, rfl, rfl, rfl, rfl, hA⟩ := C
  intro H locs ls hl hP hD hS
  exact lv_iand hx hb hd (kk H locs ls hl hP hD hS)
theorem g_ior {x y : Int32} (C : Cok w h X l0 R0 D0 K0 cc n0 own Ts) (hd : decode cc pc = .ok (.ior, 1)) (kk : G w h X (pc + 1) lv (.int (x ||| y) :: st) (σ)) : G w h X pc lv (.int y :: .int x :: st) σ := by
  obtain ⟨p, l, e, R, s, m, args, below, meth, c, Q, A, D, K, nL⟩ := X
  obtain ⟨hx, hb, hml, hown, hts, hK, hZ, rfl, rfl, rfl, rfl, rfl, hA⟩ := C
  intro H locs ls hl hP hD hS
  exact lv_ior hx hb hd (kk H locs ls hl hP hD hS)
theorem g_ixor {x y : Int32} (C : Cok w h X l0 R0 D0 K0 cc n0 own Ts) (hd : decode cc pc = .ok (.ixor, 1)) (kk : G w h X (pc + 1) lv (.int (x ^^^ y) :: st) (σ)) : G w h X pc lv (.int y :: .int x :: st) σ := by
  obtain ⟨p, l, e, R, s, m, args, below, meth, c, Q, A, D, K, nL⟩ := X
  obtain ⟨hx, hb, hml, hown, hts, hK, hZ, rfl, rfl, rfl, rfl, rfl, hA⟩ := C
  intro H locs ls hl hP hD hS
  exact lv_ixor hx hb hd (kk H locs ls hl hP hD hS)
theorem g_ishl {x y : Int32} (C : Cok w h X l0 R0 D0 K0 cc n0 own Ts) (hd : decode cc pc = .ok (.ishl, 1)) (kk : G w h X (pc + 1) lv (.int (x <<< (y &&& 31)) :: st) (σ)) : G w h X pc lv (.int y :: .int x :: st) σ := by
  obtain ⟨p, l, e, R, s, m, args, below, meth, c, Q, A, D, K, nL⟩ := X
  obtain ⟨hx, hb, hml, hown, hts, hK, hZ, rfl, rfl, rfl, rfl, rfl, hA⟩ := C
  intro H locs ls hl hP hD hS
  exact lv_ishl hx hb hd (kk H locs ls hl hP hD hS)
theorem g_ishr {x y : Int32} (C : Cok w h X l0 R0 D0 K0 cc n0 own Ts) (hd : decode cc pc = .ok (.ishr, 1)) (kk : G w h X (pc + 1) lv (.int (x >>> (y &&& 31)) :: st) (σ)) : G w h X pc lv (.int y :: .int x :: st) σ := by
  obtain ⟨p, l, e, R, s, m, args, below, meth, c, Q, A, D, K, nL⟩ := X
  obtain ⟨hx, hb, hml, hown, hts, hK, hZ, rfl, rfl, rfl, rfl, rfl, hA⟩ := C
  intro H locs ls hl hP hD hS
  exact lv_ishr hx hb hd (kk H locs ls hl hP hD hS)
theorem g_iushr {x y : Int32} (C : Cok w h X l0 R0 D0 K0 cc n0 own Ts) (hd : decode cc pc = .ok (.iushr, 1)) (kk : G w h X (pc + 1) lv (.int ((x.toUInt32 >>> (y.toUInt32 &&& Int32.toUInt32 31)).toInt32) :: st) (σ)) : G w h X pc lv (.int y :: .int x :: st) σ := by
  obtain ⟨p, l, e, R, s, m, args, below, meth, c, Q, A, D, K, nL⟩ := X
  obtain ⟨hx, hb, hml, hown, hts, hK, hZ, rfl, rfl, rfl, rfl, rfl, hA⟩ := C
  intro H locs ls hl hP hD hS
  exact lv_iushr hx hb hd rfl (kk H locs ls hl hP hD hS)
theorem g_ladd {x y : Int64} (C : Cok w h X l0 R0 D0 K0 cc n0 own Ts) (hd : decode cc pc = .ok (.ladd, 1)) (kk : G w h X (pc + 1) lv (.long (x + y) :: st) (σ)) : G w h X pc lv (.long y :: .long x :: st) σ := by
  obtain ⟨p, l, e, R, s, m, args, below, meth, c, Q, A, D, K, nL⟩ := X
  obtain ⟨hx, hb, hml, hown, hts, hK, hZ, rfl, rfl, rfl, rfl, rfl, hA⟩ := C
  intro H locs ls hl hP hD hS
  exact lv_ladd hx hb hd (kk H locs ls hl hP hD hS)
theorem g_lsub {x y : Int64} (C : Cok w h X l0 R0 D0 K0 cc n0 own Ts) (hd : decode cc pc = .ok (.lsub, 1)) (kk : G w h X (pc + 1) lv (.long (x - y) :: st) (σ)) : G w h X pc lv (.long y :: .long x :: st) σ := by
  obtain ⟨p, l, e, R, s, m, args, below, meth, c, Q, A, D, K, nL⟩ := X
  obtain ⟨hx, hb, hml, hown, hts, hK, hZ, rfl, rfl, rfl, rfl, rfl, hA⟩ := C
  intro H locs ls hl hP hD hS
  exact lv_lsub hx hb hd (kk H locs ls hl hP hD hS)
theorem g_lmul {x y : Int64} (C : Cok w h X l0 R0 D0 K0 cc n0 own Ts) (hd : decode cc pc = .ok (.lmul, 1)) (kk : G w h X (pc + 1) lv (.long (x * y) :: st) (σ)) : G w h X pc lv (.long y :: .long x :: st) σ := by
  obtain ⟨p, l, e, R, s, m, args, below, meth, c, Q, A, D, K, nL⟩ := X
  obtain ⟨hx, hb, hml, hown, hts, hK, hZ, rfl, rfl, rfl, rfl, rfl, hA⟩ := C
  intro H locs ls hl hP hD hS
  exact lv_lmul hx hb hd (kk H locs ls hl hP hD hS)
theorem g_ineg {x : Int32} (C : Cok w h X l0 R0 D0 K0 cc n0 own Ts) (hd : decode cc pc = .ok (.ineg, 1)) (kk : G w h X (pc + 1) lv (.int (-x) :: st) (σ)) : G w h X pc lv (.int x :: st) σ := by
  obtain ⟨p, l, e, R, s, m, args, below, meth, c, Q, A, D, K, nL⟩ := X
  obtain ⟨hx, hb, hml, hown, hts, hK, hZ, rfl, rfl, rfl, rfl, rfl, hA⟩ := C
  intro H locs ls hl hP hD hS
  exact lv_ineg hx hb hd (kk H locs ls hl hP hD hS)
theorem g_i2l {x : Int32} (C : Cok w h X l0 R0 D0 K0 cc n0 own Ts) (hd : decode cc pc = .ok (.i2l, 1)) (kk : G w h X (pc + 1) lv (.long x.toInt64 :: st) (σ)) : G w h X pc lv (.int x :: st) σ := by
  obtain ⟨p, l, e, R, s, m, args, below, meth, c, Q, A, D, K, nL⟩ := X
  obtain ⟨hx, hb, hml, hown, hts, hK, hZ, rfl, rfl, rfl, rfl, rfl, hA⟩ := C
  intro H locs ls hl hP hD hS
  exact lv_i2l hx hb hd rfl (kk H locs ls hl hP hD hS)
theorem g_l2i {x : Int64} (C : Cok w h X l0 R0 D0 K0 cc n0 own Ts) (hd : decode cc pc = .ok (.l2i, 1)) (kk : G w h X (pc + 1) lv (.int x.toInt32 :: st) (σ)) : G w h X pc lv (.long x :: st) σ := by
  obtain ⟨p, l, e, R, s, m, args, below, meth, c, Q, A, D, K, nL⟩ := X
  obtain ⟨hx, hb, hml, hown, hts, hK, hZ, rfl, rfl, rfl, rfl, rfl, hA⟩ := C
  intro H locs ls hl hP hD hS
  exact lv_l2i hx hb hd rfl (kk H locs ls hl hP hD hS)
theorem g_i2b {x : Int32} (C : Cok w h X l0 R0 D0 K0 cc n0 own Ts) (hd : decode cc pc = .ok (.i2b, 1)) (kk : G w h X (pc + 1) lv (.int x.toInt8.toInt32 :: st) (σ)) : G w h X pc lv (.int x :: st) σ := by
  obtain ⟨p, l, e, R, s, m, args, below, meth, c, Q, A, D, K, nL⟩ := X
  obtain ⟨hx, hb, hml, hown, hts, hK, hZ, rfl, rfl, rfl, rfl, rfl, hA⟩ := C
  intro H locs ls hl hP hD hS
  exact lv_i2b hx hb hd rfl (kk H locs ls hl hP hD hS)
theorem g_lcmp {x y : Int64} (C : Cok w h X l0 R0 D0 K0 cc n0 own Ts) (hd : decode cc pc = .ok (.lcmp, 1)) (kk : G w h X (pc + 1) lv (.int (lg_cmp x y) :: st) (σ)) : G w h X pc lv (.long y :: .long x :: st) σ := by
  obtain ⟨p, l, e, R, s, m, args, below, meth, c, Q, A, D, K, nL⟩ := X
  obtain ⟨hx, hb, hml, hown, hts, hK, hZ, rfl, rfl, rfl, rfl, rfl, hA⟩ := C
  intro H locs ls hl hP hD hS
  exact W.lcmp hx hb hd (kk H locs ls hl hP hD hS)
theorem g_dup {va : Value} (C : Cok w h X l0 R0 D0 K0 cc n0 own Ts) (hd : decode cc pc = .ok (.dup, 1)) (hv : va.category = 1) (kk : G w h X (pc + 1) lv (va :: va :: st) (σ)) : G w h X pc lv (va :: st) σ := by
  obtain ⟨p, l, e, R, s, m, args, below, meth, c, Q, A, D, K, nL⟩ := X
  obtain ⟨hx, hb, hml, hown, hts, hK, hZ, rfl, rfl, rfl, rfl, rfl, hA⟩ := C
  intro H locs ls hl hP hD hS
  exact lv_dup hx hb hd hv (kk H locs ls hl hP hD hS)
theorem g_pop {va : Value} (C : Cok w h X l0 R0 D0 K0 cc n0 own Ts) (hd : decode cc pc = .ok (.pop, 1)) (hv : va.category = 1) (kk : G w h X (pc + 1) lv (st) (σ)) : G w h X pc lv (va :: st) σ := by
  obtain ⟨p, l, e, R, s, m, args, below, meth, c, Q, A, D, K, nL⟩ := X
  obtain ⟨hx, hb, hml, hown, hts, hK, hZ, rfl, rfl, rfl, rfl, rfl, hA⟩ := C
  intro H locs ls hl hP hD hS
  exact lv_pop hx hb hd hv (kk H locs ls hl hP hD hS)
theorem g_dup2 {va vb : Value} (C : Cok w h X l0 R0 D0 K0 cc n0 own Ts) (hd : decode cc pc = .ok (.dup2, 1)) (hv : va.category = 1) (hv2 : vb.category = 1) (kk : G w h X (pc + 1) lv (va :: vb :: va :: vb :: st) (σ)) : G w h X pc lv (va :: vb :: st) σ := by
  obtain ⟨p, l, e, R, s, m, args, below, meth, c, Q, A, D, K, nL⟩ := X
  obtain ⟨hx, hb, hml, hown, hts, hK, hZ, rfl, rfl, rfl, rfl, rfl, hA⟩ := C
  intro H locs ls hl hP hD hS
  exact lv_dup2_11 hx hb hd hv hv2 (kk H locs ls hl hP hD hS)
theorem g_goto {off : Int} {tgt : Nat} (C : Cok w h X l0 R0 D0 K0 cc n0 own Ts) (hd : decode cc pc = .ok (.goto off, 3)) (ht : (pc : Int) + off = (tgt : Int)) (kk : G w h X (tgt) lv (st) (σ)) : G w h X pc lv (st) σ := by
  obtain ⟨p, l, e, R, s, m, args, below, meth, c, Q, A, D, K, nL⟩ := X
  obtain ⟨hx, hb, hml, hown, hts, hK, hZ, rfl, rfl, rfl, rfl, rfl, hA⟩ := C
  intro H locs ls hl hP hD hS
  exact lv_goto hx hb hd ht (kk H locs ls hl hP hD hS)
theorem g_idivC {x y : Int32} (C : Cok w h X l0 R0 D0 K0 cc n0 own Ts) (hd : decode cc pc = .ok (.idiv, 1)) (hne : ¬ y = 0) (kk : G w h X (pc + 1) lv (.int (x / y) :: st) (σ)) : G w h X pc lv (.int y :: .int x :: st) σ := by
  obtain ⟨p, l, e, R, s, m, args, below, meth, c, Q, A, D, K, nL⟩ := X
  obtain ⟨hx, hb, hml, hown, hts, hK, hZ, rfl, rfl, rfl, rfl, rfl, hA⟩ := C
  intro H locs ls hl hP hD hS
  exact lv_idiv hx hb hd hne (kk H locs ls hl hP hD hS)
theorem g_iremC {x y : Int32} (C : Cok w h X l0 R0 D0 K0 cc n0 own Ts) (hd : decode cc pc = .ok (.irem, 1)) (hne : ¬ y = 0) (kk : G w h X (pc + 1) lv (.int (x - x / y * y) :: st) (σ)) : G w h X pc lv (.int y :: .int x :: st) σ := by
  obtain ⟨p, l, e, R, s, m, args, below, meth, c, Q, A, D, K, nL⟩ := X
  obtain ⟨hx, hb, hml, hown, hts, hK, hZ, rfl, rfl, rfl, rfl, rfl, hA⟩ := C
  intro H locs ls hl hP hD hS
  exact lv_irem hx hb hd hne (kk H locs ls hl hP hD hS)
theorem g_ldiv {x y : Int64} {ρ : Type} {B : Option ρ} {rs : ρ} (hf : (if y = 0 then none else B) = some rs) (C : Cok w h X l0 R0 D0 K0 cc n0 own Ts) (hd : decode cc pc = .ok (.ldiv, 1)) (kk : B = some rs → G w h X (pc + 1) lv (.long (x / y) :: st) σ) : G w h X pc lv (.long y :: .long x :: st) σ := by
  by_cases hy : y = 0
  · rw [if_pos hy] at hf; cases hf
  rw [if_neg hy] at hf
  replace kk := kk hf
  obtain ⟨p, l, e, R, s, m, args, below, meth, c, Q, A, D, K, nL⟩ := X
  obtain ⟨hx, hb, hml, hown, hts, hK, hZ, rfl, rfl, rfl, rfl, rfl, hA⟩ := C
  intro H locs ls hl hP hD hS
  exact lv_ldiv hx hb hd hy (kk H locs ls hl hP hD hS)
theorem g_if_eq {x : Int32} {off : Int} {tgt : Nat} {ρ : Type} {A B : Option ρ} {rs : ρ} (hf : (if x = 0 then A else B) = some rs) (C : Cok w h X l0 R0 D0 K0 cc n0 own Ts) (hd : decode cc pc = .ok (.ifCond .eq off, 3)) (ht : (pc : Int) + off = (tgt : Int)) (k1 : A = some rs → G w h X tgt lv st σ) (k2 : B = some rs → G w h X (pc + 3) lv st σ) : G w h X pc lv (.int x :: st) σ := by
  obtain ⟨p, l, e, R, s, m, args, below, meth, c, Q, A9, D, K, nL⟩ := X
  obtain ⟨hx, hb, hml, hown, hts, hK, hZ, rfl, rfl, rfl, rfl, rfl, hA⟩ := C
  intro H locs ls hl hP hD hS
  by_cases hc : x = 0
  · rw [if_pos hc] at hf; exact lv_if_eq hx hb hd ht (fun _ => k1 hf H locs ls hl hP hD hS) (fun z => absurd hc z)
  · rw [if_neg hc] at hf; exact lv_if_eq hx hb hd ht (fun z => absurd z hc) (fun _ => k2 hf H locs ls hl hP hD hS)
theorem g_icmp_eq {x y : Int32} {off : Int} {tgt : Nat} {ρ : Type} {A B : Option ρ} {rs : ρ} (hf : (if x = y then A else B) = some rs) (C : Cok w h X l0 R0 D0 K0 cc n0 own Ts) (hd : decode cc pc = .ok (.if_icmp .eq off, 3)) (ht : (pc : Int) + off = (tgt : Int)) (k1 : A = some rs → G w h X tgt lv st σ) (k2 : B = some rs → G w h X (pc + 3) lv st σ) : G w h X pc lv (.int y :: .int x :: st) σ := by
  obtain ⟨p, l, e, R, s, m, args, below, meth, c, Q, A9, D, K, nL⟩ := X
  obtain ⟨hx, hb, hml, hown, hts, hK, hZ, rfl, rfl, rfl, rfl, rfl, hA⟩ := C
  intro H locs ls hl hP hD hS
  by_cases hc : x = y
  · rw [if_pos hc] at hf; exact lv_icmp_eq hx hb hd ht (fun _ => k1 hf H locs ls hl hP hD hS) (fun z => absurd hc z)
  · rw [if_neg hc] at hf; exact lv_icmp_eq hx hb hd ht (fun z => absurd z hc) (fun _ => k2 hf H locs ls hl hP hD hS)
theorem g_if_ne {x : Int32} {off : Int} {tgt : Nat} {ρ : Type} {A B : Option ρ} {rs : ρ} (hf : (if x = 0 then B else A) = some rs) (C : Cok w h X l0 R0 D0 K0 cc n0 own Ts) (hd : decode cc pc = .ok (.ifCond .ne off, 3)) (ht : (pc : Int) + off = (tgt : Int)) (k1 : A = some rs → G w h X tgt lv st σ) (k2 : B = some rs → G w h X (pc + 3) lv st σ) : G w h X pc lv (.int x :: st) σ := by
  obtain ⟨p, l, e, R, s, m, args, below, meth, c, Q, A9, D, K, nL⟩ := X
  obtain ⟨hx, hb, hml, hown, hts, hK, hZ, rfl, rfl, rfl, rfl, rfl, hA⟩ := C
  intro H locs ls hl hP hD hS
  by_cases hc : x = 0
  · rw [if_pos hc] at hf; exact lv_if_ne hx hb hd ht (fun z => absurd hc z) (fun _ => k2 hf H locs ls hl hP hD hS)
  · rw [if_neg hc] at hf; exact lv_if_ne hx hb hd ht (fun _ => k1 hf H locs ls hl hP hD hS) (fun z => absurd z hc)
theorem g_icmp_ne {x y : Int32} {off : Int} {tgt : Nat} {ρ : Type} {A B : Option ρ} {rs : ρ} (hf : (if x = y then B else A) = some rs) (C : Cok w h X l0 R0 D0 K0 cc n0 own Ts) (hd : decode cc pc = .ok (.if_icmp .ne off, 3)) (ht : (pc : Int) + off = (tgt : Int)) (k1 : A = some rs → G w h X tgt lv st σ) (k2 : B = some rs → G w h X (pc + 3) lv st σ) : G w h X pc lv (.int y :: .int x :: st) σ := by
  obtain ⟨p, l, e, R, s, m, args, below, meth, c, Q, A9, D, K, nL⟩ := X
  obtain ⟨hx, hb, hml, hown, hts, hK, hZ, rfl, rfl, rfl, rfl, rfl, hA⟩ := C
  intro H locs ls hl hP hD hS
  by_cases hc : x = y
  · rw [if_pos hc] at hf; exact lv_icmp_ne hx hb hd ht (fun z => absurd hc z) (fun _ => k2 hf H locs ls hl hP hD hS)
  · rw [if_neg hc] at hf; exact lv_icmp_ne hx hb hd ht (fun _ => k1 hf H locs ls hl hP hD hS) (fun z => absurd z hc)
theorem g_if_lt {x : Int32} {off : Int} {tgt : Nat} {ρ : Type} {A B : Option ρ} {rs : ρ} (hf : (if x < 0 then A else B) = some rs) (C : Cok w h X l0 R0 D0 K0 cc n0 own Ts) (hd : decode cc pc = .ok (.ifCond .lt off, 3)) (ht : (pc : Int) + off = (tgt : Int)) (k1 : A = some rs → G w h X tgt lv st σ) (k2 : B = some rs → G w h X (pc + 3) lv st σ) : G w h X pc lv (.int x :: st) σ := by
  obtain ⟨p, l, e, R, s, m, args, below, meth, c, Q, A9, D, K, nL⟩ := X
  obtain ⟨hx, hb, hml, hown, hts, hK, hZ, rfl, rfl, rfl, rfl, rfl, hA⟩ := C
  intro H locs ls hl hP hD hS
  by_cases hc : x < 0
  · rw [if_pos hc] at hf; exact lv_if_lt hx hb hd ht (fun _ => k1 hf H locs ls hl hP hD hS) (fun z => absurd hc z)
  · rw [if_neg hc] at hf; exact lv_if_lt hx hb hd ht (fun z => absurd z hc) (fun _ => k2 hf H locs ls hl hP hD hS)
theorem g_icmp_lt {x y : Int32} {off : Int} {tgt : Nat} {ρ : Type} {A B : Option ρ} {rs : ρ} (hf : (if x < y then A else B) = some rs) (C : Cok w h X l0 R0 D0 K0 cc n0 own Ts) (hd : decode cc pc = .ok (.if_icmp .lt off, 3)) (ht : (pc : Int) + off = (tgt : Int)) (k1 : A = some rs → G w h X tgt lv st σ) (k2 : B = some rs → G w h X (pc + 3) lv st σ) : G w h X pc lv (.int y :: .int x :: st) σ := by
  obtain ⟨p, l, e, R, s, m, args, below, meth, c, Q, A9, D, K, nL⟩ := X
  obtain ⟨hx, hb, hml, hown, hts, hK, hZ, rfl, rfl, rfl, rfl, rfl, hA⟩ := C
  intro H locs ls hl hP hD hS
  by_cases hc : x < y
  · rw [if_pos hc] at hf; exact lv_icmp_lt hx hb hd ht (fun _ => k1 hf H locs ls hl hP hD hS) (fun z => absurd hc z)
  · rw [if_neg hc] at hf; exact lv_icmp_lt hx hb hd ht (fun z => absurd z hc) (fun _ => k2 hf H locs ls hl hP hD hS)
theorem g_if_ge {x : Int32} {off : Int} {tgt : Nat} {ρ : Type} {A B : Option ρ} {rs : ρ} (hf : (if 0 ≤ x then A else B) = some rs) (C : Cok w h X l0 R0 D0 K0 cc n0 own Ts) (hd : decode cc pc = .ok (.ifCond .ge off, 3)) (ht : (pc : Int) + off = (tgt : Int)) (k1 : A = some rs → G w h X tgt lv st σ) (k2 : B = some rs → G w h X (pc + 3) lv st σ) : G w h X pc lv (.int x :: st) σ := by
  obtain ⟨p, l, e, R, s, m, args, below, meth, c, Q, A9, D, K, nL⟩ := X
  obtain ⟨hx, hb, hml, hown, hts, hK, hZ, rfl, rfl, rfl, rfl, rfl, hA⟩ := C
  intro H locs ls hl hP hD hS
  by_cases hc : 0 ≤ x
  · rw [if_pos hc] at hf; exact lv_if_ge hx hb hd ht (fun _ => k1 hf H locs ls hl hP hD hS) (fun z => absurd hc z)
  · rw [if_neg hc] at hf; exact lv_if_ge hx hb hd ht (fun z => absurd z hc) (fun _ => k2 hf H locs ls hl hP hD hS)
theorem g_icmp_ge {x y : Int32} {off : Int} {tgt : Nat} {ρ : Type} {A B : Option ρ} {rs : ρ} (hf : (if y ≤ x then A else B) = some rs) (C : Cok w h X l0 R0 D0 K0 cc n0 own Ts) (hd : decode cc pc = .ok (.if_icmp .ge off, 3)) (ht : (pc : Int) + off = (tgt : Int)) (k1 : A = some rs → G w h X tgt lv st σ) (k2 : B = some rs → G w h X (pc + 3) lv st σ) : G w h X pc lv (.int y :: .int x :: st) σ := by
  obtain ⟨p, l, e, R, s, m, args, below, meth, c, Q, A9, D, K, nL⟩ := X
  obtain ⟨hx, hb, hml, hown, hts, hK, hZ, rfl, rfl, rfl, rfl, rfl, hA⟩ := C
  intro H locs ls hl hP hD hS
  by_cases hc : y ≤ x
  · rw [if_pos hc] at hf; exact lv_icmp_ge hx hb hd ht (fun _ => k1 hf H locs ls hl hP hD hS) (fun z => absurd hc z)
  · rw [if_neg hc] at hf; exact lv_icmp_ge hx hb hd ht (fun z => absurd z hc) (fun _ => k2 hf H locs ls hl hP hD hS)
theorem g_if_gt {x : Int32} {off : Int} {tgt : Nat} {ρ : Type} {A B : Option ρ} {rs : ρ} (hf : (if 0 < x then A else B) = some rs) (C : Cok w h X l0 R0 D0 K0 cc n0 own Ts) (hd : decode cc pc = .ok (.ifCond .gt off, 3)) (ht : (pc : Int) + off = (tgt : Int)) (k1 : A = some rs → G w h X tgt lv st σ) (k2 : B = some rs → G w h X (pc + 3) lv st σ) : G w h X pc lv (.int x :: st) σ := by
  obtain ⟨p, l, e, R, s, m, args, below, meth, c, Q, A9, D, K, nL⟩ := X
  obtain ⟨hx, hb, hml, hown, hts, hK, hZ, rfl, rfl, rfl, rfl, rfl, hA⟩ := C
  intro H locs ls hl hP hD hS
  by_cases hc : 0 < x
  · rw [if_pos hc] at hf; exact lv_if_gt hx hb hd ht (fun _ => k1 hf H locs ls hl hP hD hS) (fun z => absurd hc z)
  · rw [if_neg hc] at hf; exact lv_if_gt hx hb hd ht (fun z => absurd z hc) (fun _ => k2 hf H locs ls hl hP hD hS)
theorem g_icmp_gt {x y : Int32} {off : Int} {tgt : Nat} {ρ : Type} {A B : Option ρ} {rs : ρ} (hf : (if y < x then A else B) = some rs) (C : Cok w h X l0 R0 D0 K0 cc n0 own Ts) (hd : decode cc pc = .ok (.if_icmp .gt off, 3)) (ht : (pc : Int) + off = (tgt : Int)) (k1 : A = some rs → G w h X tgt lv st σ) (k2 : B = some rs → G w h X (pc + 3) lv st σ) : G w h X pc lv (.int y :: .int x :: st) σ := by
  obtain ⟨p, l, e, R, s, m, args, below, meth, c, Q, A9, D, K, nL⟩ := X
  obtain ⟨hx, hb, hml, hown, hts, hK, hZ, rfl, rfl, rfl, rfl, rfl, hA⟩ := C
  intro H locs ls hl hP hD hS
  by_cases hc : y < x
  · rw [if_pos hc] at hf; exact lv_icmp_gt hx hb hd ht (fun _ => k1 hf H locs ls hl hP hD hS) (fun z => absurd hc z)
  · rw [if_neg hc] at hf; exact lv_icmp_gt hx hb hd ht (fun z => absurd z hc) (fun _ => k2 hf H locs ls hl hP hD hS)
theorem g_if_le {x : Int32} {off : Int} {tgt : Nat} {ρ : Type} {A B : Option ρ} {rs : ρ} (hf : (if x ≤ 0 then A else B) = some rs) (C : Cok w h X l0 R0 D0 K0 cc n0 own Ts) (hd : decode cc pc = .ok (.ifCond .le off, 3)) (ht : (pc : Int) + off = (tgt : Int)) (k1 : A = some rs → G w h X tgt lv st σ) (k2 : B = some rs → G w h X (pc + 3) lv st σ) : G w h X pc lv (.int x :: st) σ := by
  obtain ⟨p, l, e, R, s, m, args, below, meth, c, Q, A9, D, K, nL⟩ := X
  obtain ⟨hx, hb, hml, hown, hts, hK, hZ, rfl, rfl, rfl, rfl, rfl, hA⟩ := C
  intro H locs ls hl hP hD hS
  by_cases hc : x ≤ 0
  · rw [if_pos hc] at hf; exact lv_if_le hx hb hd ht (fun _ => k1 hf H locs ls hl hP hD hS) (fun z => absurd hc z)
  · rw [if_neg hc] at hf; exact lv_if_le hx hb hd ht (fun z => absurd z hc) (fun _ => k2 hf H locs ls hl hP hD hS)
theorem g_icmp_le {x y : Int32} {off : Int} {tgt : Nat} {ρ : Type} {A B : Option ρ} {rs : ρ} (hf : (if x ≤ y then A else B) = some rs) (C : Cok w h X l0 R0 D0 K0 cc n0 own Ts) (hd : decode cc pc = .ok (.if_icmp .le off, 3)) (ht : (pc : Int) + off = (tgt : Int)) (k1 : A = some rs → G w h X tgt lv st σ) (k2 : B = some rs → G w h X (pc + 3) lv st σ) : G w h X pc lv (.int y :: .int x :: st) σ := by
  obtain ⟨p, l, e, R, s, m, args, below, meth, c, Q, A9, D, K, nL⟩ := X
  obtain ⟨hx, hb, hml, hown, hts, hK, hZ, rfl, rfl, rfl, rfl, rfl, hA⟩ := C
  intro H locs ls hl hP hD hS
  by_cases hc : x ≤ y
  · rw [if_pos hc] at hf; exact lv_icmp_le hx hb hd ht (fun _ => k1 hf H locs ls hl hP hD hS) (fun z => absurd hc z)
  · rw [if_neg hc] at hf; exact lv_icmp_le hx hb hd ht (fun z => absurd z hc) (fun _ => k2 hf H locs ls hl hP hD hS)
theorem g_swc {x c : Int32} {ρ : Type} {A B : Option ρ} {rs : ρ} {goal : Prop} (hf : (if x = c then A else B) = some rs) (k1 : x = c → A = some rs → goal) (k2 : ¬ x = c → B = some rs → goal) : goal := by
  by_cases hc : x = c
  · rw [if_pos hc] at hf; exact k1 hc hf
  · rw [if_neg hc] at hf; exact k2 hc hf
theorem g_swin {x c : Int32} {dflt lo hi off : Int} {offs : Array Int} {len tgt : Nat} (hxc : x = c) (C : Cok w h X l0 R0 D0 K0 cc n0 own Ts) (hd : decode cc pc = .ok (.tableswitch dflt lo hi offs, len)) (h1 : ¬ c.toInt < lo) (h2 : ¬ hi < c.toInt) (ho : offs[(c.toInt - lo).toNat]? = some off) (ht : (pc : Int) + off = (tgt : Int)) (kk : G w h X tgt lv st σ) : G w h X pc lv (.int x :: st) σ := by
  subst hxc
  obtain ⟨p, l, e, R, s, m, args, below, meth, c9, Q, A, D, K, nL⟩ := X
  obtain ⟨hx, hb, hml, hown, hts, hK, hZ, rfl, rfl, rfl, rfl, rfl, hA⟩ := C
  intro H locs ls hl hP hD hS
  exact lv_tableIn hx hb hd h1 h2 ho ht (kk H locs ls hl hP hD hS)
theorem g_swout {x : Int32} {dflt lo hi : Int} {offs : Array Int} {len tgt : Nat} (C : Cok w h X l0 R0 D0 K0 cc n0 own Ts) (hd : decode cc pc = .ok (.tableswitch dflt lo hi offs, len)) (ho : x.toInt < lo ∨ hi < x.toInt) (ht : (pc : Int) + dflt = (tgt : Int)) (kk : G w h X tgt lv st σ) : G w h X pc lv (.int x :: st) σ := by
  obtain ⟨p, l, e, R, s, m, args, below, meth, c, Q, A, D, K, nL⟩ := X
  obtain ⟨hx, hb, hml, hown, hts, hK, hZ, rfl, rfl, rfl, rfl, rfl, hA⟩ := C
  intro H locs ls hl hP hD hS
  exact lv_tableOut hx hb hd ho ht (kk H locs ls hl hP hD hS)
theorem g_getI {Cn : String} {T : u_T} {Nf ci index e k : Nat} {ks : List Nat} (C : Cok w h X l0 R0 D0 K0 cc n0 own Ts) (hin : ∀ q ∈ u_ws Cn T Nf, q ∈ Ts) (hlk : Cond.fieldLink own index (T k).1 (T k).2.1 (T k).2.2.1 ∈ Ts) (hc : vwCl[ci]? = some (Cn, T, Nf)) (hkN : k < Nf) (he : w.1 e = .inl (ci, ks)) (hN : e < w.2.1) (hkd : ks[k]? = some 0) (hd : decode cc pc = .ok (.getfield index, 3)) (kk : G w h X (pc + 3) lv (.int (pI σ e k) :: st) σ) : G w h X pc lv (.ref (h e) :: st) σ := by
  obtain ⟨p, l, e9, R, s, m, args, below, meth, c, Q, A, D, K, nL⟩ := X
  obtain ⟨hx, hb, hml, hown, hts, hK, hZ, rfl, rfl, rfl, rfl, rfl, hA⟩ := C
  intro H locs ls hl hP hD hS
  have hcell : (wld w K h σ)[e]? = some (h e, .inr (ci, pobj h σ e ks)) := by rw [wld_at hN, pcell, he]
  exact va_get hx hb hts hin hown hK hP e hcell hc k hkN (hts _ hlk) (fun _ z => z) (pobj_at hkd) hd (kk H locs ls hl hP hD hS)
theorem g_getL {Cn : String} {T : u_T} {Nf ci index e k : Nat} {ks : List Nat} (C : Cok w h X l0 R0 D0 K0 cc n0 own Ts) (hin : ∀ q ∈ u_ws Cn T Nf, q ∈ Ts) (hlk : Cond.fieldLink own index (T k).1 (T k).2.1 (T k).2.2.1 ∈ Ts) (hc : vwCl[ci]? = some (Cn, T, Nf)) (hkN : k < Nf) (he : w.1 e = .inl (ci, ks)) (hN : e < w.2.1) (hkd : ks[k]? = some 1) (hd : decode cc pc = .ok (.getfield index, 3)) (kk : G w h X (pc + 3) lv (.long (pL σ e k) :: st) σ) : G w h X pc lv (.ref (h e) :: st) σ := by
  obtain ⟨p, l, e9, R, s, m, args, below, meth, c, Q, A, D, K, nL⟩ := X
  obtain ⟨hx, hb, hml, hown, hts, hK, hZ, rfl, rfl, rfl, rfl, rfl, hA⟩ := C
  intro H locs ls hl hP hD hS
  have hcell : (wld w K h σ)[e]? = some (h e, .inr (ci, pobj h σ e ks)) := by rw [wld_at hN, pcell, he]
  exact va_get hx hb hts hin hown hK hP e hcell hc k hkN (hts _ hlk) (fun _ z => z) (pobj_at hkd) hd (kk H locs ls hl hP hD hS)
theorem g_getR {Cn : String} {T : u_T} {Nf ci index e k : Nat} {ks : List Nat} (C : Cok w h X l0 R0 D0 K0 cc n0 own Ts) (hin : ∀ q ∈ u_ws Cn T Nf, q ∈ Ts) (hlk : Cond.fieldLink own index (T k).1 (T k).2.1 (T k).2.2.1 ∈ Ts) (hc : vwCl[ci]? = some (Cn, T, Nf)) (hkN : k < Nf) (he : w.1 e = .inl (ci, ks)) (hN : e < w.2.1) (hkd : ks[k]? = some 2) (hd : decode cc pc = .ok (.getfield index, 3)) (kk : G w h X (pc + 3) lv (.ref (h (pR σ e k)) :: st) σ) : G w h X pc lv (.ref (h e) :: st) σ := by
  obtain ⟨p, l, e9, R, s, m, args, below, meth, c, Q, A, D, K, nL⟩ := X
  obtain ⟨hx, hb, hml, hown, hts, hK, hZ, rfl, rfl, rfl, rfl, rfl, hA⟩ := C
  intro H locs ls hl hP hD hS
  have hcell : (wld w K h σ)[e]? = some (h e, .inr (ci, pobj h σ e ks)) := by rw [wld_at hN, pcell, he]
  exact va_get hx hb hts hin hown hK hP e hcell hc k hkN (hts _ hlk) (fun _ z => z) (pobj_at hkd) hd (kk H locs ls hl hP hD hS)
theorem g_getC {Cn : String} {T : u_T} {Nf ci index e k : Nat} {ks : List Nat} {n : Nat} (C : Cok w h X l0 R0 D0 K0 cc n0 own Ts) (hin : ∀ q ∈ u_ws Cn T Nf, q ∈ Ts) (hlk : Cond.fieldLink own index (T k).1 (T k).2.1 (T k).2.2.1 ∈ Ts) (hc : vwCl[ci]? = some (Cn, T, Nf)) (hkN : k < Nf) (he : w.1 e = .inl (ci, ks)) (hN : e < w.2.1) (hkd : ks[k]? = some (n + 3)) (hd : decode cc pc = .ok (.getfield index, 3)) (kk : G w h X (pc + 3) lv (.ref (h n) :: st) σ) : G w h X pc lv (.ref (h e) :: st) σ := by
  obtain ⟨p, l, e9, R, s, m, args, below, meth, c, Q, A, D, K, nL⟩ := X
  obtain ⟨hx, hb, hml, hown, hts, hK, hZ, rfl, rfl, rfl, rfl, rfl, hA⟩ := C
  intro H locs ls hl hP hD hS
  have hcell : (wld w K h σ)[e]? = some (h e, .inr (ci, pobj h σ e ks)) := by rw [wld_at hN, pcell, he]
  exact va_get hx hb hts hin hown hK hP e hcell hc k hkN (hts _ hlk) (fun _ z => z) (pobj_at hkd) hd (kk H locs ls hl hP hD hS)
theorem g_putI {Cn : String} {T : u_T} {Nf ci index e k : Nat} {ks : List Nat} {v : Int32} (C : Cok w h X l0 R0 D0 K0 cc n0 own Ts) (hin : ∀ q ∈ u_ws Cn T Nf, q ∈ Ts) (hlk : Cond.fieldLink own index (T k).1 (T k).2.1 (T k).2.2.1 ∈ Ts) (hc : vwCl[ci]? = some (Cn, T, Nf)) (hkN : k < Nf) (he : w.1 e = .inl (ci, ks)) (hN : e < w.2.1) (ty0 : Nat → FieldType) (hty : ∀ k, k < Nf → parseFieldDescriptor (T k).2.2.1 = some (ty0 k)) (hnm : ∀ a, a < Nf → ∀ b, b < Nf → a ≠ b → (T a).2.1 ≠ (T b).2.1) (hfin : (T k).2.2.2 = false) (hnr : narrow (ty0 k) (.int v) = .int v) (hft : fits (ty0 k) (.int v) = true) (hkd : ks[k]? = some 0) (hd : decode cc pc = .ok (.putfield index, 3)) (kk : G w h X (pc + 3) lv st (sI σ e k v)) : G w h X pc lv (.int v :: .ref (h e) :: st) σ := by
  obtain ⟨p, l, e9, R, s, m, args, below, meth, c, Q, A, D, K, nL⟩ := X
  obtain ⟨hx, hb, hml, hown, hts, hK, hZ, rfl, rfl, rfl, rfl, rfl, hA⟩ := C
  intro H locs ls hl hP hD hS
  have hcell : (wld w K h σ)[e]? = some (h e, .inr (ci, pobj h σ e ks)) := by rw [wld_at hN, pcell, he]
  refine va_put hx hb hts hin ty0 hty hnm hown hK hP hD hS e hcell hc k hkN (hts _ hlk) (fun _ z => z) hfin (hty k hkN) hnr hft (by rw [pobj_len]; exact (List.getElem?_eq_some_iff.mp hkd).1) hd (fun H1 locs1 hP1 hD1 hS1 => ?_)
  rw [pobj_set (σ' := sI σ e k v) hkd (by simp [pfv, sI, upd, vp_updL]) (fun j kd' hj => pfv_sI hj), wld_set (σ' := sI σ e k v) hN (by rw [pcell, he]) (fun e' hne => pcell_ne (sI_ne hne))] at hP1
  exact kk H1 locs1 ls hl hP1 (wld_D hD) hS1
theorem g_putL {Cn : String} {T : u_T} {Nf ci index e k : Nat} {ks : List Nat} {v : Int64} (C : Cok w h X l0 R0 D0 K0 cc n0 own Ts) (hin : ∀ q ∈ u_ws Cn T Nf, q ∈ Ts) (hlk : Cond.fieldLink own index (T k).1 (T k).2.1 (T k).2.2.1 ∈ Ts) (hc : vwCl[ci]? = some (Cn, T, Nf)) (hkN : k < Nf) (he : w.1 e = .inl (ci, ks)) (hN : e < w.2.1) (ty0 : Nat → FieldType) (hty : ∀ k, k < Nf → parseFieldDescriptor (T k).2.2.1 = some (ty0 k)) (hnm : ∀ a, a < Nf → ∀ b, b < Nf → a ≠ b → (T a).2.1 ≠ (T b).2.1) (hfin : (T k).2.2.2 = false) (hnr : narrow (ty0 k) (.long v) = .long v) (hft : fits (ty0 k) (.long v) = true) (hkd : ks[k]? = some 1) (hd : decode cc pc = .ok (.putfield index, 3)) (kk : G w h X (pc + 3) lv st (sL σ e k v)) : G w h X pc lv (.long v :: .ref (h e) :: st) σ := by
  obtain ⟨p, l, e9, R, s, m, args, below, meth, c, Q, A, D, K, nL⟩ := X
  obtain ⟨hx, hb, hml, hown, hts, hK, hZ, rfl, rfl, rfl, rfl, rfl, hA⟩ := C
  intro H locs ls hl hP hD hS
  have hcell : (wld w K h σ)[e]? = some (h e, .inr (ci, pobj h σ e ks)) := by rw [wld_at hN, pcell, he]
  refine va_put hx hb hts hin ty0 hty hnm hown hK hP hD hS e hcell hc k hkN (hts _ hlk) (fun _ z => z) hfin (hty k hkN) hnr hft (by rw [pobj_len]; exact (List.getElem?_eq_some_iff.mp hkd).1) hd (fun H1 locs1 hP1 hD1 hS1 => ?_)
  rw [pobj_set (σ' := sL σ e k v) hkd (by simp [pfv, sL, upd, vp_updL]) (fun j kd' hj => pfv_sL hj), wld_set (σ' := sL σ e k v) hN (by rw [pcell, he]) (fun e' hne => pcell_ne (sL_ne hne))] at hP1
  exact kk H1 locs1 ls hl hP1 (wld_D hD) hS1
theorem g_putR {Cn : String} {T : u_T} {Nf ci index e k : Nat} {ks : List Nat} {v : Nat} (C : Cok w h X l0 R0 D0 K0 cc n0 own Ts) (hin : ∀ q ∈ u_ws Cn T Nf, q ∈ Ts) (hlk : Cond.fieldLink own index (T k).1 (T k).2.1 (T k).2.2.1 ∈ Ts) (hc : vwCl[ci]? = some (Cn, T, Nf)) (hkN : k < Nf) (he : w.1 e = .inl (ci, ks)) (hN : e < w.2.1) (ty0 : Nat → FieldType) (hty : ∀ k, k < Nf → parseFieldDescriptor (T k).2.2.1 = some (ty0 k)) (hnm : ∀ a, a < Nf → ∀ b, b < Nf → a ≠ b → (T a).2.1 ≠ (T b).2.1) (hfin : (T k).2.2.2 = false) (hnr : narrow (ty0 k) (.ref (h v)) = .ref (h v)) (hft : fits (ty0 k) (.ref (h v)) = true) (hkd : ks[k]? = some 2) (hd : decode cc pc = .ok (.putfield index, 3)) (kk : G w h X (pc + 3) lv st (sR σ e k v)) : G w h X pc lv (.ref (h v) :: .ref (h e) :: st) σ := by
  obtain ⟨p, l, e9, R, s, m, args, below, meth, c, Q, A, D, K, nL⟩ := X
  obtain ⟨hx, hb, hml, hown, hts, hK, hZ, rfl, rfl, rfl, rfl, rfl, hA⟩ := C
  intro H locs ls hl hP hD hS
  have hcell : (wld w K h σ)[e]? = some (h e, .inr (ci, pobj h σ e ks)) := by rw [wld_at hN, pcell, he]
  refine va_put hx hb hts hin ty0 hty hnm hown hK hP hD hS e hcell hc k hkN (hts _ hlk) (fun _ z => z) hfin (hty k hkN) hnr hft (by rw [pobj_len]; exact (List.getElem?_eq_some_iff.mp hkd).1) hd (fun H1 locs1 hP1 hD1 hS1 => ?_)
  rw [pobj_set (σ' := sR σ e k v) hkd (by simp [pfv, sR, upd, vp_updL]) (fun j kd' hj => pfv_sR hj), wld_set (σ' := sR σ e k v) hN (by rw [pcell, he]) (fun e' hne => pcell_ne (sR_ne hne))] at hP1
  exact kk H1 locs1 ls hl hP1 (wld_D hD) hS1
theorem g_iald {e n b : Nat} {i : Int32} {ρ : Type} {B : Option ρ} {rs : ρ} (hf : (if pin i n then B else none) = some rs) (C : Cok w h X l0 R0 D0 K0 cc n0 own Ts) (he : w.1 e = .inr (0, n, b)) (hN : e < w.2.1) (hd : decode cc pc = .ok (.iaload, 1)) (kk : B = some rs → G w h X (pc + 1) lv (.int (pI σ e i.toNatClampNeg) :: st) σ) : G w h X pc lv (.int i :: .ref (h e) :: st) σ := by
  obtain ⟨hpi, hf⟩ := g_guard hf
  replace kk := kk hf
  obtain ⟨p, l, e9, R, s, m, args, below, meth, c, Q, A, D, K, nL⟩ := X
  obtain ⟨hx, hb, hml, hown, hts, hK, hZ, rfl, rfl, rfl, rfl, rfl, hA⟩ := C
  intro H locs ls hl hP hD hS
  have hcell : (wld w K h σ)[e]? = some (h e, .inl (K e, n, .inl (σ.1 e))) := by rw [wld_at hN, pcell, he]; rfl
  obtain ⟨t0, ht0⟩ := wty_at (K := K) hN he
  exact va_iald hx hb hK hP e t0 hcell ht0 (pin_in hpi) hd (kk H locs ls hl hP hD hS)
theorem g_bald {e n b : Nat} {i : Int32} {ρ : Type} {B : Option ρ} {rs : ρ} (hf : (if pin i n then B else none) = some rs) (C : Cok w h X l0 R0 D0 K0 cc n0 own Ts) (he : w.1 e = .inr (2, n, b)) (hN : e < w.2.1) (hd : decode cc pc = .ok (.baload, 1)) (kk : B = some rs → G w h X (pc + 1) lv (.int (pI σ e i.toNatClampNeg) :: st) σ) : G w h X pc lv (.int i :: .ref (h e) :: st) σ := by
  obtain ⟨hpi, hf⟩ := g_guard hf
  replace kk := kk hf
  obtain ⟨p, l, e9, R, s, m, args, below, meth, c, Q, A, D, K, nL⟩ := X
  obtain ⟨hx, hb, hml, hown, hts, hK, hZ, rfl, rfl, rfl, rfl, rfl, hA⟩ := C
  intro H locs ls hl hP hD hS
  have hcell : (wld w K h σ)[e]? = some (h e, .inl (K e, n, .inl (σ.1 e))) := by rw [wld_at hN, pcell, he]; rfl
  obtain ⟨t0, ht0⟩ := wty_at (K := K) hN he
  exact va_bald hx hb hK hP e t0 hcell ht0 (pin_in hpi) hd (kk H locs ls hl hP hD hS)
theorem g_zald {e n b : Nat} {i : Int32} {ρ : Type} {B : Option ρ} {rs : ρ} (hf : (if pin i n then B else none) = some rs) (C : Cok w h X l0 R0 D0 K0 cc n0 own Ts) (he : w.1 e = .inr (3, n, b)) (hN : e < w.2.1) (hd : decode cc pc = .ok (.baload, 1)) (kk : B = some rs → G w h X (pc + 1) lv (.int (pI σ e i.toNatClampNeg) :: st) σ) : G w h X pc lv (.int i :: .ref (h e) :: st) σ := by
  obtain ⟨hpi, hf⟩ := g_guard hf
  replace kk := kk hf
  obtain ⟨p, l, e9, R, s, m, args, below, meth, c, Q, A, D, K, nL⟩ := X
  obtain ⟨hx, hb, hml, hown, hts, hK, hZ, rfl, rfl, rfl, rfl, rfl, hA⟩ := C
  intro H locs ls hl hP hD hS
  have hcell : (wld w K h σ)[e]? = some (h e, .inl (K e, n, .inl (σ.1 e))) := by rw [wld_at hN, pcell, he]; rfl
  obtain ⟨t0, ht0⟩ := wty_at (K := K) hN he
  exact va_zald hx hb hK hP e t0 hcell ht0 (pin_in hpi) hd (kk H locs ls hl hP hD hS)
theorem g_lald {e n b : Nat} {i : Int32} {ρ : Type} {B : Option ρ} {rs : ρ} (hf : (if pin i n then B else none) = some rs) (C : Cok w h X l0 R0 D0 K0 cc n0 own Ts) (he : w.1 e = .inr (1, n, b)) (hN : e < w.2.1) (hd : decode cc pc = .ok (.laload, 1)) (kk : B = some rs → G w h X (pc + 1) lv (.long (pL σ e i.toNatClampNeg) :: st) σ) : G w h X pc lv (.int i :: .ref (h e) :: st) σ := by
  obtain ⟨hpi, hf⟩ := g_guard hf
  replace kk := kk hf
  obtain ⟨p, l, e9, R, s, m, args, below, meth, c, Q, A, D, K, nL⟩ := X
  obtain ⟨hx, hb, hml, hown, hts, hK, hZ, rfl, rfl, rfl, rfl, rfl, hA⟩ := C
  intro H locs ls hl hP hD hS
  have hcell : (wld w K h σ)[e]? = some (h e, .inl (K e, n, .inr (.inl (σ.2.1 e)))) := by rw [wld_at hN, pcell, he]; rfl
  obtain ⟨t0, ht0⟩ := wty_at (K := K) hN he
  exact va_lald hx hb hK hP e t0 hcell ht0 (pin_in hpi) hd (kk H locs ls hl hP hD hS)
theorem g_aald {e n b kd : Nat} {i : Int32} {ρ : Type} {B : Option ρ} {rs : ρ} (hf : (if pin i n then B else none) = some rs) (C : Cok w h X l0 R0 D0 K0 cc n0 own Ts) (he : w.1 e = .inr (kd, n, b)) (hkd : kd = 4 ∨ kd = 5) (hN : e < w.2.1) (hd : decode cc pc = .ok (.aaload, 1)) (kk : pin i n = true → B = some rs → G w h X (pc + 1) lv (.ref (h (b + i.toNatClampNeg)) :: st) σ) : G w h X pc lv (.int i :: .ref (h e) :: st) σ := by
  obtain ⟨hpi, hf⟩ := g_guard hf
  replace kk := kk hpi hf
  have hlt : i.toNatClampNeg < n := by simp [pin] at hpi; exact hpi.2
  obtain ⟨p, l, e9, R, s, m, args, below, meth, c, Q, A, D, K, nL⟩ := X
  obtain ⟨hx, hb, hml, hown, hts, hK, hZ, rfl, rfl, rfl, rfl, rfl, hA⟩ := C
  intro H locs ls hl hP hD hS
  have hcell : (wld w K h σ)[e]? = some (h e, .inl (K e, n, .inr (.inr (.inr (.inr (fun j => if j < n then some (h (b + j)) else none)))))) := by rw [wld_at hN, pcell, he]; rcases hkd with rfl | rfl <;> rfl
  obtain ⟨t0, ht0⟩ := wty_at (K := K) hN he
  refine W.aald (v := .ref (h (b + i.toNatClampNeg))) (ty := pty kd) hx hb (hP e _ hcell) ((hK.2 t0 _ ht0).1 n (fun j => va_rf (if j < n then some (h (b + j)) else none))) (by rcases hkd with rfl | rfl <;> rfl) (fun q => by cases q) (by show ¬ (i < 0 ∨ (arrV _ _ _).slots.size ≤ _); rw [arrV_size]; exact pin_in hpi) (by show (arrV _ _ _).slots[_]? = _; rw [arrV_read _ _ hlt]; simp [hlt, va_rf]) rfl rfl hd (kk H locs ls hl hP hD hS)
theorem g_iast {e n b : Nat} {i : Int32} {v : Int32} {ρ : Type} {B : Option ρ} {rs : ρ} (hf : (if pin i n then B else none) = some rs) (C : Cok w h X l0 R0 D0 K0 cc n0 own Ts) (he : w.1 e = .inr (0, n, b)) (hN : e < w.2.1) (hd : decode cc pc = .ok (.iastore, 1)) (kk : B = some rs → G w h X (pc + 1) lv st (sI σ e i.toNatClampNeg v)) : G w h X pc lv (.int v :: .int i :: .ref (h e) :: st) σ := by
  obtain ⟨hpi, hf⟩ := g_guard hf
  replace kk := kk hf
  obtain ⟨p, l, e9, R, s, m, args, below, meth, c, Q, A, D, K, nL⟩ := X
  obtain ⟨hx, hb, hml, hown, hts, hK, hZ, rfl, rfl, rfl, rfl, rfl, hA⟩ := C
  intro H locs ls hl hP hD hS
  have hcell : (wld w K h σ)[e]? = some (h e, .inl (K e, n, .inl (σ.1 e))) := by rw [wld_at hN, pcell, he]; rfl
  obtain ⟨t0, ht0⟩ := wty_at (K := K) hN he
  refine va_iast hx hb hK hP hD hS e t0 hcell ht0 (pin_in hpi) hd (fun H1 locs1 hP1 hD1 hS1 => ?_)
  rw [wld_set (σ' := sI σ e i.toNatClampNeg v) hN (by rw [pcell, he]; simp [parr, sI]) (fun e' hne => pcell_ne (sI_ne hne))] at hP1
  exact kk H1 locs1 ls hl hP1 (wld_D hD) hS1
theorem g_bast {e n b : Nat} {i : Int32} {v : Int32} {ρ : Type} {B : Option ρ} {rs : ρ} (hf : (if pin i n then B else none) = some rs) (C : Cok w h X l0 R0 D0 K0 cc n0 own Ts) (he : w.1 e = .inr (2, n, b)) (hN : e < w.2.1) (hd : decode cc pc = .ok (.bastore, 1)) (kk : B = some rs → G w h X (pc + 1) lv st (sI σ e i.toNatClampNeg (vp_nar .byte v))) : G w h X pc lv (.int v :: .int i :: .ref (h e) :: st) σ := by
  obtain ⟨hpi, hf⟩ := g_guard hf
  replace kk := kk hf
  obtain ⟨p, l, e9, R, s, m, args, below, meth, c, Q, A, D, K, nL⟩ := X
  obtain ⟨hx, hb, hml, hown, hts, hK, hZ, rfl, rfl, rfl, rfl, rfl, hA⟩ := C
  intro H locs ls hl hP hD hS
  have hcell : (wld w K h σ)[e]? = some (h e, .inl (K e, n, .inl (σ.1 e))) := by rw [wld_at hN, pcell, he]; rfl
  obtain ⟨t0, ht0⟩ := wty_at (K := K) hN he
  refine va_bast hx hb hK hP hD hS e t0 hcell ht0 (pin_in hpi) hd (fun H1 locs1 hP1 hD1 hS1 => ?_)
  rw [wld_set (σ' := sI σ e i.toNatClampNeg (vp_nar .byte v)) hN (by rw [pcell, he]; simp [parr, sI]) (fun e' hne => pcell_ne (sI_ne hne))] at hP1
  exact kk H1 locs1 ls hl hP1 (wld_D hD) hS1
theorem g_zast {e n b : Nat} {i : Int32} {v : Int32} {ρ : Type} {B : Option ρ} {rs : ρ} (hf : (if pin i n then B else none) = some rs) (C : Cok w h X l0 R0 D0 K0 cc n0 own Ts) (he : w.1 e = .inr (3, n, b)) (hN : e < w.2.1) (hd : decode cc pc = .ok (.bastore, 1)) (kk : B = some rs → G w h X (pc + 1) lv st (sI σ e i.toNatClampNeg (vp_nar .boolean v))) : G w h X pc lv (.int v :: .int i :: .ref (h e) :: st) σ := by
  obtain ⟨hpi, hf⟩ := g_guard hf
  replace kk := kk hf
  obtain ⟨p, l, e9, R, s, m, args, below, meth, c, Q, A, D, K, nL⟩ := X
  obtain ⟨hx, hb, hml, hown, hts, hK, hZ, rfl, rfl, rfl, rfl, rfl, hA⟩ := C
  intro H locs ls hl hP hD hS
  have hcell : (wld w K h σ)[e]? = some (h e, .inl (K e, n, .inl (σ.1 e))) := by rw [wld_at hN, pcell, he]; rfl
  obtain ⟨t0, ht0⟩ := wty_at (K := K) hN he
  refine va_zast hx hb hK hP hD hS e t0 hcell ht0 (pin_in hpi) hd (fun H1 locs1 hP1 hD1 hS1 => ?_)
  rw [wld_set (σ' := sI σ e i.toNatClampNeg (vp_nar .boolean v)) hN (by rw [pcell, he]; simp [parr, sI]) (fun e' hne => pcell_ne (sI_ne hne))] at hP1
  exact kk H1 locs1 ls hl hP1 (wld_D hD) hS1
theorem g_last {e n b : Nat} {i : Int32} {v : Int64} {ρ : Type} {B : Option ρ} {rs : ρ} (hf : (if pin i n then B else none) = some rs) (C : Cok w h X l0 R0 D0 K0 cc n0 own Ts) (he : w.1 e = .inr (1, n, b)) (hN : e < w.2.1) (hd : decode cc pc = .ok (.lastore, 1)) (kk : B = some rs → G w h X (pc + 1) lv st (sL σ e i.toNatClampNeg v)) : G w h X pc lv (.long v :: .int i :: .ref (h e) :: st) σ := by
  obtain ⟨hpi, hf⟩ := g_guard hf
  replace kk := kk hf
  obtain ⟨p, l, e9, R, s, m, args, below, meth, c, Q, A, D, K, nL⟩ := X
  obtain ⟨hx, hb, hml, hown, hts, hK, hZ, rfl, rfl, rfl, rfl, rfl, hA⟩ := C
  intro H locs ls hl hP hD hS
  have hcell : (wld w K h σ)[e]? = some (h e, .inl (K e, n, .inr (.inl (σ.2.1 e)))) := by rw [wld_at hN, pcell, he]; rfl
  obtain ⟨t0, ht0⟩ := wty_at (K := K) hN he
  refine va_last hx hb hK hP hD hS e t0 hcell ht0 (pin_in hpi) hd (fun H1 locs1 hP1 hD1 hS1 => ?_)
  rw [wld_set (σ' := sL σ e i.toNatClampNeg v) hN (by rw [pcell, he]; simp [parr, sL]) (fun e' hne => pcell_ne (sL_ne hne))] at hP1
  exact kk H1 locs1 ls hl hP1 (wld_D hD) hS1
theorem g_alen {e kd n b : Nat} {v : Int32} (C : Cok w h X l0 R0 D0 K0 cc n0 own Ts) (he : w.1 e = .inr (kd, n, b)) (hN : e < w.2.1) (hv : Int32.ofNat n = v) (hd : decode cc pc = .ok (.arraylength, 1)) (kk : G w h X (pc + 1) lv (.int v :: st) σ) : G w h X pc lv (.ref (h e) :: st) σ := by
  obtain ⟨p, l, e9, R, s, m, args, below, meth, c, Q, A, D, K, nL⟩ := X
  obtain ⟨hx, hb, hml, hown, hts, hK, hZ, rfl, rfl, rfl, rfl, rfl, hA⟩ := C
  intro H locs ls hl hP hD hS
  obtain ⟨x, hx1, hcell⟩ : ∃ x : vp_A, x.1 = n ∧ (wld w K h σ)[e]? = some (h e, .inl (K e, x)) := by
    have h1 := wld_at (w := w) (K := K) (h := h) (σ := σ) hN
    rw [pcell, he] at h1
    simp only [parr] at h1
    split at h1 <;> exact ⟨_, rfl, h1⟩
  obtain ⟨t0, ht0⟩ := wty_at (K := K) hN he
  exact va_alen hx hb hK hP e t0 hcell ht0 (by rw [hx1]; exact hv) hd (kk H locs ls hl hP hD hS)
end GR
