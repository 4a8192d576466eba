/-! the pure state: ints, longs and cell numbers, by cell and place -/
abbrev pS : Type := (Nat → Nat → Int32) × (Nat → Nat → Int64) × (Nat → Nat → Nat)
def pI (σ : pS) (e i : Nat) : Int32 := σ.1 e i
def pL (σ : pS) (e i : Nat) : Int64 := σ.2.1 e i
def pR (σ : pS) (e i : Nat) : Nat := σ.2.2 e i
def sI (σ : pS) (e i : Nat) (v : Int32) : pS := (fun b => if b = e then upd (σ.1 e) i v else σ.1 b, σ.2.1, σ.2.2)
def sL (σ : pS) (e i : Nat) (v : Int64) : pS := (σ.1, fun b => if b = e then vp_updL (σ.2.1 e) i v else σ.2.1 b, σ.2.2)
def sR (σ : pS) (e i : Nat) (v : Nat) : pS := (σ.1, σ.2.1, fun b => if b = e then (fun j => if j = i then v else σ.2.2 e j) else σ.2.2 b)
def sF (σ : pS) (e : Nat) (f : Nat → Int32) : pS := (fun b => if b = e then f else σ.1 b, σ.2.1, σ.2.2)
/-- shapes: an object (its place in vwCl, its fields' kinds: 0 int, 1 long, 2 a cell that may change, n + 3 always cell n); an array (kind, length, first cell of its rows) -/
abbrev pSh : Type := Nat → (Nat × List Nat) ⊕ (Nat × Nat × Nat)
abbrev pW : Type := pSh × Nat × Bool
def pfv (h : Nat → Nat) (σ : pS) (e k : Nat) (kd : Nat) : Value := match kd with
  | 0 => .int (σ.1 e k)
  | 1 => .long (σ.2.1 e k)
  | 2 => .ref (h (σ.2.2 e k))
  | n + 3 => .ref (h n)
def parr (K : Nat → ClassId) (h : Nat → Nat) (σ : pS) (e kd n b : Nat) : va_E := match kd with
  | 1 => .inl (K e, n, .inr (.inl (σ.2.1 e)))
  | 4 => .inl (K e, n, .inr (.inr (.inr (.inr (fun j => if j < n then some (h (b + j)) else none)))))
  | 5 => .inl (K e, n, .inr (.inr (.inr (.inr (fun j => if j < n then some (h (b + j)) else none)))))
  | _ => .inl (K e, n, .inl (σ.1 e))
def pobj (h : Nat → Nat) (σ : pS) (e : Nat) (ks : List Nat) : List Value := ks.mapIdx (fun k kd => pfv h σ e k kd)
def pcell (sh : pSh) (K : Nat → ClassId) (h : Nat → Nat) (σ : pS) (e : Nat) : va_E := match sh e with
  | .inl (ci, ks) => .inr (ci, pobj h σ e ks)
  | .inr (kd, n, b) => parr K h σ e kd n b
def pty (kd : Nat) : FieldType := match kd with
  | 0 => .int
  | 1 => .long
  | 2 => .byte
  | 3 => .boolean
  | 4 => .array .int
  | _ => .array .byte
def wld (w : pW) (K : Nat → ClassId) (h : Nat → Nat) (σ : pS) : va_W := (List.range w.2.1).map (fun e => (h e, pcell w.1 K h σ e))
def wty (w : pW) (K : Nat → ClassId) : List (ClassId × FieldType) := (List.range w.2.1).filterMap (fun e => match w.1 e with
  | .inl _ => none
  | .inr (kd, _, _) => some (K e, pty kd))
def pA (w : pW) (h : Nat → Nat) : Nat → Prop := fun q => ∃ e, e < w.2.1 ∧ q = h e
theorem wld_at {w : pW} {K : Nat → ClassId} {h : Nat → Nat} {σ : pS} {e : Nat} (he : e < w.2.1) : (wld w K h σ)[e]? = some (h e, pcell w.1 K h σ e) := by
  simp [wld, List.getElem?_map, List.getElem?_range he]
theorem wld_len {w : pW} {K : Nat → ClassId} {h : Nat → Nat} {σ : pS} : (wld w K h σ).length = w.2.1 := by simp [wld]
theorem wld_get {w : pW} {K : Nat → ClassId} {h : Nat → Nat} {σ : pS} {k : Nat} {q : Nat × va_E} (hk : (wld w K h σ)[k]? = some q) : k < w.2.1 ∧ q = (h k, pcell w.1 K h σ k) := by
  have hl : k < w.2.1 := by
    have := (List.getElem?_eq_some_iff.mp hk).1
    rwa [wld_len] at this
  rw [wld_at hl] at hk
  exact ⟨hl, (Option.some.inj hk).symm⟩
theorem wty_at {w : pW} {K : Nat → ClassId} {e kd n b : Nat} (he : e < w.2.1) (hs : w.1 e = .inr (kd, n, b)) : ∃ t : Nat, (wty w K)[t]? = some (K e, pty kd) := by
  have hm : (K e, pty kd) ∈ wty w K := by
    unfold wty
    rw [List.mem_filterMap]
    exact ⟨e, List.mem_range.mpr he, by rw [hs]⟩
  exact List.getElem?_of_mem hm
theorem wld_D {w : pW} {K : Nat → ClassId} {h : Nat → Nat} {σ σ' : pS} {A : Nat → Prop} (hD : va_D A (wld w K h σ)) : va_D A (wld w K h σ') := by
  refine ⟨fun i j x y hi hj hxy => ?_, fun k q hk => ?_⟩
  · obtain ⟨h1, rfl⟩ := wld_get hi
    obtain ⟨h2, rfl⟩ := wld_get hj
    exact hD.1 i j _ _ (wld_at h1) (wld_at h2) hxy
  · obtain ⟨h1, rfl⟩ := wld_get hk
    exact hD.2 k (h k, pcell w.1 K h σ k) (wld_at h1)
theorem wld_set {w : pW} {K : Nat → ClassId} {h : Nat → Nat} {σ σ' : pS} {e : Nat} {c : va_E} (he : e < w.2.1) (hc : pcell w.1 K h σ' e = c) (ho : ∀ e', e' ≠ e → pcell w.1 K h σ' e' = pcell w.1 K h σ e') : (wld w K h σ).set e (h e, c) = wld w K h σ' := by
  apply List.ext_getElem?
  intro k
  by_cases hk : k = e
  · subst hk
    rw [List.getElem?_set_self (by rw [wld_len]; exact he), wld_at he, hc]
  · rw [List.getElem?_set_ne (Ne.symm hk)]
    by_cases hl : k < w.2.1
    · rw [wld_at hl, wld_at hl, ho k hk]
    · rw [List.getElem?_eq_none (by rw [wld_len]; omega), List.getElem?_eq_none (by rw [wld_len]; omega)]
theorem pfv_other {h : Nat → Nat} {σ σ' : pS} {e' k kd : Nat} (h1 : σ'.1 e' = σ.1 e') (h2 : σ'.2.1 e' = σ.2.1 e') (h3 : σ'.2.2 e' = σ.2.2 e') : pfv h σ' e' k kd = pfv h σ e' k kd := by
  unfold pfv
  rw [h1, h2, h3]
theorem pcell_other {sh : pSh} {K : Nat → ClassId} {h : Nat → Nat} {σ σ' : pS} {e' : Nat} (h1 : σ'.1 e' = σ.1 e') (h2 : σ'.2.1 e' = σ.2.1 e') (h3 : σ'.2.2 e' = σ.2.2 e') : pcell sh K h σ' e' = pcell sh K h σ e' := by
  unfold pcell
  split
  · rename_i ci ks _
    simp only [pobj, pfv_other h1 h2 h3]
  · unfold parr
    rw [h1, h2]
theorem sI_ne {σ : pS} {e i e' : Nat} {v : Int32} (h : e' ≠ e) : (sI σ e i v).1 e' = σ.1 e' ∧ (sI σ e i v).2.1 e' = σ.2.1 e' ∧ (sI σ e i v).2.2 e' = σ.2.2 e' := ⟨if_neg h, rfl, rfl⟩
theorem sL_ne {σ : pS} {e i e' : Nat} {v : Int64} (h : e' ≠ e) : (sL σ e i v).1 e' = σ.1 e' ∧ (sL σ e i v).2.1 e' = σ.2.1 e' ∧ (sL σ e i v).2.2 e' = σ.2.2 e' := ⟨rfl, if_neg h, rfl⟩
theorem sR_ne {σ : pS} {e i e' : Nat} {v : Nat} (h : e' ≠ e) : (sR σ e i v).1 e' = σ.1 e' ∧ (sR σ e i v).2.1 e' = σ.2.1 e' ∧ (sR σ e i v).2.2 e' = σ.2.2 e' := ⟨rfl, rfl, if_neg h⟩
theorem sF_ne {σ : pS} {e e' : Nat} {f : Nat → Int32} (h : e' ≠ e) : (sF σ e f).1 e' = σ.1 e' ∧ (sF σ e f).2.1 e' = σ.2.1 e' ∧ (sF σ e f).2.2 e' = σ.2.2 e' := ⟨if_neg h, rfl, rfl⟩
theorem pcell_ne {sh : pSh} {K : Nat → ClassId} {h : Nat → Nat} {σ σ' : pS} {e' : Nat} (H : σ'.1 e' = σ.1 e' ∧ σ'.2.1 e' = σ.2.1 e' ∧ σ'.2.2 e' = σ.2.2 e') : pcell sh K h σ' e' = pcell sh K h σ e' := pcell_other H.1 H.2.1 H.2.2
theorem pobj_at {h : Nat → Nat} {σ : pS} {e k kd : Nat} {ks : List Nat} (hk : ks[k]? = some kd) : (pobj h σ e ks)[k]? = some (pfv h σ e k kd) := by
  simp [pobj, List.getElem?_mapIdx, hk]
theorem pobj_len {h : Nat → Nat} {σ : pS} {e : Nat} {ks : List Nat} : (pobj h σ e ks).length = ks.length := by simp [pobj]
theorem pobj_set {h : Nat → Nat} {σ σ' : pS} {e k kd : Nat} {ks : List Nat} {v : Value} (hk : ks[k]? = some kd) (hv : pfv h σ' e k kd = v) (ho : ∀ j kd', j ≠ k → pfv h σ' e j kd' = pfv h σ e j kd') : (pobj h σ e ks).set k v = pobj h σ' e ks := by
  apply List.ext_getElem?
  intro j
  by_cases hj : j = k
  · subst hj
    rw [List.getElem?_set_self (by rw [pobj_len]; exact (List.getElem?_eq_some_iff.mp hk).1), pobj_at hk, hv]
  · rw [List.getElem?_set_ne (Ne.symm hj)]
    unfold pobj
    rw [List.getElem?_mapIdx, List.getElem?_mapIdx]
    cases ks[j]? with
    | none => rfl
    | some q => exact congrArg some (ho j q hj).symm
theorem pfv_sI {h : Nat → Nat} {σ : pS} {e k j kd : Nat} {v : Int32} (hj : j ≠ k) : pfv h (sI σ e k v) e j kd = pfv h σ e j kd := by
  unfold pfv sI
  simp [upd, hj]
theorem pfv_sL {h : Nat → Nat} {σ : pS} {e k j kd : Nat} {v : Int64} (hj : j ≠ k) : pfv h (sL σ e k v) e j kd = pfv h σ e j kd := by
  unfold pfv sL
  simp [vp_updL, hj]
theorem pfv_sR {h : Nat → Nat} {σ : pS} {e k j kd : Nat} {v : Nat} (hj : j ≠ k) : pfv h (sR σ e k v) e j kd = pfv h σ e j kd := by
  unfold pfv sR
  simp [hj]
/-! what the tables and the static array say -/
def hsg (j : Nat) : Int32 := match j with
  | 0 => 104
  | 1 => 107
  | 2 => 115
  | 3 => 109
  | 4 => 108
  | _ => 121
def pZ (w : pW) (A : Nat → Prop) (U : State) (H : Heap) : Prop := w.2.2 = true → ∃ t : Nat, va_Z RX1 "HOUSE_SIGNS" "[B" (.ref t) A U H ∧ va_T .byte t 6 (fun j => .int (hsg j)) A U H
def pIn (w : pW) (D : va_G) (K : Nat → ClassId) (h : Nat → Nat) (σ : pS) (U : State) : Prop := va_P D vwCl (wld w K h σ) U.heap ∧ va_K D vwCl (wty w K) U ∧ va_D (fun _ => True) (wld w K h σ) ∧ pZ w (pA w h) U U.heap
def pOut (w : pW) (D : va_G) (K : Nat → ClassId) (h : Nat → Nat) (σ : pS) (U : State) : Prop := va_P D vwCl (wld w K h σ) U.heap
/-! the judgement: at pc, with these locals, this stack, this pure state, the machine comes to its end -/
abbrev Cx : Type := Program × Launch × Env × Room × State × MethodId × Array Value × List Frame × Method × Code × (State → Prop) × (Nat → Prop) × va_G × (Nat → ClassId) × Nat
def G (w : pW) (h : Nat → Nat) (X : Cx) (pc : Nat) (lv : List (Nat × Value)) (st : List Value) (σ : pS) : Prop :=
  match X with
  | (p, l, e, R, s, m, args, below, meth, c, Q, A, D, K, nL) => ∀ (H : Heap) (locs : List Loc) (ls : Array Slot), lv_has ls nL lv → va_P D vwCl (wld w K h σ) H → va_D A (wld w K h σ) → va_S A s.heap H locs → W p l e R s m args below meth c H locs 0 0 Q (F0 m pc ls st)
/-- what holds of the context all through a method's body -/
def Cok (w : pW) (h : Nat → Nat) (X : Cx) (l0 : Launch) (R0 : Room) (D0 : va_G) (K0 : Nat → ClassId) (cc : ByteArray) (n0 : Nat) (own : String) (Ts : List Cond) : Prop :=
  match X with
  | (p, l, e, R, s, m, args, below, meth, c, Q, A, D, K, nL) => p.tables.exec = Jvm.exec ∧ c.code = cc ∧ c.maxLocals = nL ∧ s.vm.findClass own = some m.cls ∧ (∀ q ∈ Ts, q.before args s = true) ∧ va_K D vwCl (wty w K) s ∧ pZ w A s s.heap ∧ l = l0 ∧ R = R0 ∧ D = D0 ∧ K = K0 ∧ nL = n0 ∧ (∀ q, pA w h q → A q)
