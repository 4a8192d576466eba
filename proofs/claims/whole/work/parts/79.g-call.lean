/-! PURE: call -/
def cdN (τ : pS) (p : Nat) : Nat := (pI τ 7 (4 * p + 3)).toNatClampNeg
theorem cdN_ok {τ : pS} (ho : Ro τ) {p : Nat} (hp : p < tn τ) : pI τ 7 (4 * p + 3) = nI (cdN τ p) ∧ cdN τ p ≤ 99 := by
  obtain ⟨k, -, -, -, -, -, c, c1, c2⟩ := ho.2.2.2.2.2.1 p hp
  unfold cdN
  rw [c2, nI_clamp (by omega)]
  exact ⟨rfl, c1⟩
/-- the masks if p is called out at t -/
def mkc (τ : pS) (p t x : Nat) : Nat := if x = t then mayO τ t (outS τ t ||| 2 ^ p).testBit else mayS τ x
theorem mkc_lt (τ : pS) (p t x : Nat) : mkc τ p t x < 2 ^ td τ := by
  unfold mkc
  split
  · exact bset_lt _ _
  · exact bset_lt _ _
def clN (τ : pS) (p t : Nat) : Nat := Lo (dpO τ) (mkc τ p t) 12 0 0
theorem lossWith_eq {σ τ : pS} (h : RR σ τ) (hp : payX σ (mayS τ)) (hl : LTX σ τ (mayS τ) 0) {t p : Nat} (ht : t < 12) (hx : PX σ τ (mayS τ) t) : fX2_lossWith σ (nI t) (nI (mayO τ t (outS τ t ||| 2 ^ p).testBit)) = some (nI (clN τ p t), σ) := by
  have o2 := hD8 h
  have hp8 := pow8 o2
  have p0 := Nat.two_pow_pos (td τ)
  have ho := h.2.2.2.2.1
  have gd := dpO_gd τ
  have hv := vl_ge h.2.2.2.1
  have ml : mayO τ t (outS τ t ||| 2 ^ p).testBit < 2 ^ td τ := bset_lt _ _
  have mt := mayS_D τ t
  unfold fX2_lossWith
  rw [pin_lit ht (by decide), nI_clamp (show t < 2 ^ 31 by omega), hp t ht]
  simp only [if_true, plet_eq, nI_eq (show mayO τ t (outS τ t ||| 2 ^ p).testBit < 2 ^ 31 by omega) (show mayS τ t < 2 ^ 31 by omega)]
  by_cases q : mayO τ t (outS τ t ||| 2 ^ p).testBit = mayS τ t
  · rw [if_pos q, leastLoss_eq hl, obind_some]
    unfold clN
    rw [show mkc τ p t = mayS τ from funext fun x => by
      unfold mkc
      split
      · rename_i z; rw [z]; exact q
      · rfl]
  · rw [if_neg q]
    have c1 : Lo (dpO τ) (mkc τ p t) (11 - t) (t + 1) = Lo (dpO τ) (mayS τ) (11 - t) (t + 1) := funext (Lo_congr _ _ (fun x x1 x2 => by unfold mkc; rw [if_neg (by omega)]))
    have c2 : Pl (dpO τ) (mkc τ p t) t = Pl (dpO τ) (mayS τ) t := funext (Pl_congr _ (fun x x1 => by unfold mkc; rw [if_neg (by omega)]))
    have back : sI (sI σ 14 t (nI (mayO τ t (outS τ t ||| 2 ^ p).testBit))) 14 t (nI (mayS τ t)) = σ := pS_ext (fun e i => by
      rw [pI_sI]
      by_cases z : e = 14 ∧ i = t
      · rw [if_pos z, z.1, z.2, hp t ht]
      · rw [if_neg z, pI_sI, if_neg z]) (fun _ _ => rfl) (fun _ _ => rfl)
    have R2 : RR (sI σ 14 t (nI (mayO τ t (outS τ t ||| 2 ^ p).testBit))) τ := RR_FX h (FX_sI hv (by omega))
    have e : mnN (fun s => if Pl (dpO τ) (mayS τ) t s < 1000000 then Pl (dpO τ) (mayS τ) t s + Lo (dpO τ) (mkc τ p t) (12 - t) t s else 1000000) 1000000 (2 ^ td τ) = clN τ p t := by
      obtain ⟨g1, s, g2, g3⟩ := splitO ho (mkc_lt τ p t) t (12 - t)
      rw [c2, show t + (12 - t) = 12 by omega] at g1 g3
      have := LoO_lt ho (mkc τ p t) 12 0 0
      unfold clN
      refine mnN_eq (by omega) (fun i _ => ?_) ⟨s, g2, ?_⟩
      · split
        · exact g1 i
        · omega
      · rw [if_pos (by omega)]; exact g3
    rw [← e]
    refine whF (fun F (a : Int32) v => lX2_lossWith_31 (sI σ 14 t (nI (mayO τ t (outS τ t ||| 2 ^ p).testBit))) (nI t) (nI (mayS τ t)) _ F a v) (n := 2 ^ td τ) (by omega) (fun j => nI (mnN (fun s => if Pl (dpO τ) (mayS τ) t s < 1000000 then Pl (dpO τ) (mayS τ) t s + Lo (dpO τ) (mkc τ p t) (12 - t) t s else 1000000) 1000000 j)) _ (fun F => ?_) (fun F j hj => ?_)
    · show lX2_lossWith_31 _ _ _ _ (F + 1) _ _ = _
      rw [lX2_lossWith_31.eq_2, allX R2, if_pos (nI_lt (by omega) (by omega)), back]
    · show lX2_lossWith_31 _ _ _ _ (F + 1) _ _ = _
      have m1 := (mnN_ok (fun s => if Pl (dpO τ) (mayS τ) t s < 1000000 then Pl (dpO τ) (mayS τ) t s + Lo (dpO τ) (mkc τ p t) (12 - t) t s else 1000000) 1000000 j).1
      have p1 := Pl_top gd (mayS τ) t j
      have p2 := LoO_lt ho (mkc τ p t) (12 - t) t j
      have lf := lossFrom_eq R2 (nx := Lo (dpO τ) (mayS τ) (11 - t) (t + 1)) (fun s => LoO_lt ho _ _ _ _) ht hj ml (by rw [pI_sI_eq]) (fun s hs => by
        have := hl (t + 1) (by omega) (by omega) s hs
        rw [show 12 - (t + 1) = 11 - t by omega] at this
        rw [pI_sI_ne (by omega)]; exact this)
      have lf' : dfold (minSt (dpO τ).1 (dpc (dpO τ) t (Lo (dpO τ) (mayS τ) (11 - t) (t + 1)) j)) (diff (mayO τ t (outS τ t ||| 2 ^ p).testBit) j) (diff (mayO τ t (outS τ t ||| 2 ^ p).testBit) j) (Lo (dpO τ) (mayS τ) (11 - t) (t + 1) j) = Lo (dpO τ) (mkc τ p t) (12 - t) t j := by
        rw [show 12 - t = 11 - t + 1 by omega, Lo_s, c1, show mkc τ p t t = mayO τ t (outS τ t ||| 2 ^ p).testBit by unfold mkc; rw [if_pos rfl]]
      rw [lf'] at lf
      rw [lX2_lossWith_31.eq_2, allX R2, if_neg (nI_nlt (by omega) (by omega)), pin_lit (show j < 256 by omega) (by decide), nI_clamp (show j < 2 ^ 31 by omega), pI_sI_ne (by decide), hx j hj, lf, obind_some, nI_add, mnN_s]
      simp only [if_true, plet_eq, obind_some, nI_1, show ∀ x, ((1000000 : Int32) ≤ nI x) = (nI 1000000 ≤ nI x) from fun _ => rfl, nI_leI (show 1000000 < 2 ^ 31 by decide) (show Pl (dpO τ) (mayS τ) t j < 2 ^ 31 by omega)]
      by_cases z : 1000000 ≤ Pl (dpO τ) (mayS τ) t j
      · rw [if_pos z, if_neg (show ¬ Pl (dpO τ) (mayS τ) t j < 1000000 by omega), Nat.min_eq_left m1]
      · rw [if_neg z, if_pos (show Pl (dpO τ) (mayS τ) t j < 1000000 by omega), min_lt (by omega) (by omega)]
/-! the best of all calls -/
def lsC (τ : pS) (p t : Nat) : Nat := clN τ p t + cdN τ p
def kle (l p t l' p' t' : Nat) : Prop := l < l' ∨ (l = l' ∧ (p < p' ∨ (p = p' ∧ t ≤ t')))
def cand (τ : pS) (p t : Nat) : Prop := p < tn τ ∧ t < 12 ∧ outB τ t p = false
def bstC (τ : pS) (S : Nat → Nat → Prop) (p t : Nat) : Prop := S p t ∧ cand τ p t ∧ ∀ p' t', S p' t' → cand τ p' t' → kle (lsC τ p t) p t (lsC τ p' t') p' t'
theorem clN_ok {τ : pS} (ho : Ro τ) (p t : Nat) : lossOk τ (clN τ p t) := Lo_ok ho _ (by decide)
def XB (τ : pS) (S : Nat → Nat → Prop) (s : pS) : Prop := (pI s 3 10 = -9 ∧ ∀ p t, S p t → ¬ cand τ p t) ∨ ∃ p t, bstC τ S p t ∧ pI s 3 9 = nI (lsC τ p t) ∧ pI s 3 10 = nI p ∧ pI s 3 11 = nI t
def FC (σ s : pS) : Prop := (∀ e i, e ≠ 16 → ¬ (e = 3 ∧ 9 ≤ i) → pI s e i = pI σ e i) ∧ (∀ e i, pL s e i = pL σ e i) ∧ ∀ e i, pR s e i = pR σ e i
theorem FC_tr {a b c : pS} (h1 : FC a b) (h2 : FC b c) : FC a c := ⟨fun e i q1 q2 => (h2.1 e i q1 q2).trans (h1.1 e i q1 q2), fun e i => (h2.2.1 e i).trans (h1.2.1 e i), fun e i => (h2.2.2 e i).trans (h1.2.2 e i)⟩
theorem FC_rf {σ : pS} : FC σ σ := ⟨fun _ _ _ _ => rfl, fun _ _ => rfl, fun _ _ => rfl⟩
theorem FC_only {σ σ' : pS} (h : only σ σ' 16) : FC σ σ' := ⟨fun e i q _ => h.1 e i q, h.2.1, h.2.2⟩
theorem FC_s {σ : pS} {i : Nat} (hi : 9 ≤ i) {v : Int32} : FC σ (sI σ 3 i v) := ⟨fun e j _ q => by rw [pI_sI, if_neg (fun z => q ⟨z.1, by omega⟩)], fun _ _ => rfl, fun _ _ => rfl⟩
theorem FC_FX {σ s : pS} (hv : 46 ≤ vl σ) (h : FC σ s) : FX σ s := ⟨fun e i he => h.1 e i (by omega) (by omega), ⟨h.1 0 9 (by decide) (by omega), h.1 0 12 (by decide) (by omega)⟩, ⟨h.1 3 0 (by decide) (by omega), h.1 3 1 (by decide) (by omega)⟩, ⟨h.2.1 _ _, h.2.1 _ _⟩, h.2.2 _ _, h.2.2 _ _⟩
theorem weigh_eq {σ τ : pS} (ho : Ro τ) {S S' : Nat → Nat → Prop} {p t : Nat} (hc : cand τ p t) (hS : XB τ S σ) (hS' : ∀ p' t', S' p' t' ↔ (S p' t' ∨ (p' = p ∧ t' = t))) (hord : ∀ p' t', S p' t' → t' < t ∨ (t' = t ∧ p' < p)) : ∃ σ', fX2_weighCall σ (nI p) (nI t) (nI (lsC τ p t)) = some ((), σ') ∧ FC σ σ' ∧ (∀ i, pI σ' 16 i = pI σ 16 i) ∧ XB τ S' σ' := by
  have o1 := ho.1
  have o2 := ho.2.1
  have bnd : ∀ p t, p < tn τ → lsC τ p t < 2 ^ 30 := fun p t hp => by
    have := LoO_lt ho (mkc τ p t) 12 0 0
    have := (cdN_ok ho hp).2
    unfold lsC clN
    omega
  have new : XB τ S' (sI (sI (sI σ 3 9 (nI (lsC τ p t))) 3 10 (nI p)) 3 11 (nI t)) ∨ ¬ bstC τ S' p t := by
    by_cases z : bstC τ S' p t
    · left; right
      refine ⟨p, t, z, ?_, ?_, pI_sI_eq⟩
      · rw [pI_sI_nj (by decide), pI_sI_nj (by decide), pI_sI_eq]
      · rw [pI_sI_nj (by decide), pI_sI_eq]
    · exact Or.inr z
  have frm : FC σ (sI (sI (sI σ 3 9 (nI (lsC τ p t))) 3 10 (nI p)) 3 11 (nI t)) := FC_tr (FC_tr (FC_s (by decide)) (FC_s (by decide))) (FC_s (by decide))
  have f16 : ∀ i, pI (sI (sI (sI σ 3 9 (nI (lsC τ p t))) 3 10 (nI p)) 3 11 (nI t)) 16 i = pI σ 16 i := fun i => by rw [pI_sI_ne (by decide), pI_sI_ne (by decide), pI_sI_ne (by decide)]
  have kself : ∀ p' t', p' = p ∧ t' = t → kle (lsC τ p t) p t (lsC τ p' t') p' t' := fun p' t' e => by rw [e.1, e.2]; unfold kle; omega
  unfold fX2_weighCall
  simp only [plet_eq]
  rcases hS with ⟨e1, e2⟩ | ⟨q, u, b, e1, e2, e3⟩
  · rw [if_pos e1]
    refine ⟨_, rfl, frm, f16, ?_⟩
    rcases new with n | n
    · exact n
    · refine absurd ⟨(hS' p t).mpr (Or.inr ⟨rfl, rfl⟩), hc, fun p' t' h1 h2 => ?_⟩ n
      rcases (hS' p' t').mp h1 with z | z
      · exact absurd h2 (e2 p' t' z)
      · exact kself p' t' z
  · have hq := b.2.1.1
    have hor := hord q u b.1
    have b1 := bnd q u hq
    have b2 := bnd p t hc.1
    rw [if_neg (by rw [e2]; exact nI_ne_m9 (by omega)), e1, e2]
    simp only [nI_ltI (show lsC τ p t < 2 ^ 31 by omega) (show lsC τ q u < 2 ^ 31 by omega), nI_eq (show lsC τ p t < 2 ^ 31 by omega) (show lsC τ q u < 2 ^ 31 by omega), nI_leI (show q < 2 ^ 31 by omega) (show p < 2 ^ 31 by have := hc.1; omega)]
    have keep : kle (lsC τ q u) q u (lsC τ p t) p t → XB τ S' σ := fun kk => Or.inr ⟨q, u, ⟨(hS' q u).mpr (Or.inl b.1), b.2.1, fun p' t' h1 h2 => by
      rcases (hS' p' t').mp h1 with z | z
      · exact b.2.2 p' t' z h2
      · rw [z.1, z.2]; exact kk⟩, e1, e2, e3⟩
    have take : kle (lsC τ p t) p t (lsC τ q u) q u → XB τ S' (sI (sI (sI σ 3 9 (nI (lsC τ p t))) 3 10 (nI p)) 3 11 (nI t)) := fun kk => by
      rcases new with n | n
      · exact n
      · refine absurd ⟨(hS' p t).mpr (Or.inr ⟨rfl, rfl⟩), hc, fun p' t' h1 h2 => ?_⟩ n
        rcases (hS' p' t').mp h1 with z | z
        · have := b.2.2 p' t' z h2
          unfold kle at *
          omega
        · exact kself p' t' z
    by_cases z1 : lsC τ p t < lsC τ q u
    · rw [if_pos z1]
      exact ⟨_, rfl, frm, f16, take (Or.inl z1)⟩
    · rw [if_neg z1]
      by_cases z2 : lsC τ p t = lsC τ q u
      · rw [if_pos z2]
        by_cases z3 : q ≤ p
        · rw [if_pos z3]
          exact ⟨_, rfl, FC_rf, fun _ => rfl, keep (by unfold kle; omega)⟩
        · rw [if_neg z3]
          exact ⟨_, rfl, frm, f16, take (by unfold kle; omega)⟩
      · rw [if_neg z2]
        exact ⟨_, rfl, FC_rf, fun _ => rfl, keep (by unfold kle; omega)⟩
theorem call_hour {σ τ : pS} (h : RR σ τ) (hp : payX σ (mayS τ)) (hl : LTX σ τ (mayS τ) 0) {t : Nat} (ht : t < 12) (hx : PX σ τ (mayS τ) t) (hB : XB τ (fun _ t' => t' < t) σ) (k : pS → Option (Int32 × pS)) : ∃ σ', lX2_findCall_27 (pR σ 0 8) (nI t) (nI (outS τ t)) k FU (nI 0) σ = k σ' ∧ FC σ σ' ∧ (∀ i, pI σ' 16 i = pI σ 16 i) ∧ XB τ (fun _ t' => t' < t + 1) σ' := by
  have ho := h.2.2.2.2.1
  have o1 := hN6 h
  have hv := vl_ge h.2.2.2.1
  have ol := outS_lt ho t
  have op : ∀ p, p < 6 → outS τ t ||| 2 ^ p < 64 := fun p hp' => Nat.or_lt_two_pow (n := 6) ol (Nat.pow_lt_pow_right (by decide) hp')
  obtain ⟨σ', h1, h2, h3, h4⟩ := whS (fun F s v => lX2_findCall_27 (pR σ 0 8) (nI t) (nI (outS τ t)) k F v s) (n := tn τ) (by omega) (fun j s => FC σ s ∧ (∀ i, pI s 16 i = pI σ 16 i) ∧ XB τ (fun p' t' => t' < t ∨ (t' = t ∧ p' < j)) s) k σ ⟨FC_rf, fun _ => rfl, by
      have : (fun (p' t' : Nat) => t' < t ∨ (t' = t ∧ p' < 0)) = fun _ t' => t' < t := by
        funext p' t'
        exact propext ⟨fun z => by omega, fun z => by omega⟩
      rw [this]; exact hB⟩ (fun F s hs => by
      have hR : RR s τ := RR_FX h (FC_FX hv hs.1)
      have e8 : pR σ 0 8 = pR s 0 8 := (hs.1.2.2 0 8).symm
      show lX2_findCall_27 _ _ _ _ (F + 1) _ s = _
      rw [lX2_findCall_27.eq_2, e8, hV hR, hPn hR, if_pos rfl, if_pos (nI_le (Nat.le_refl _) (by omega))]) (fun F s j hj hs => by
      have hR : RR s τ := RR_FX h (FC_FX hv hs.1)
      have e8 : pR σ 0 8 = pR s 0 8 := (hs.1.2.2 0 8).symm
      have hp' : payX s (mayS τ) := fun x hx' => by rw [hs.1.1 14 x (by decide) (by omega)]; exact hp x hx'
      have hl' : LTX s τ (mayS τ) 0 := fun x x1 x2 y hy => by rw [hs.1.1 _ _ (by omega) (by omega)]; exact hl x x1 x2 y hy
      have hx' : PX s τ (mayS τ) t := fun y hy => by rw [hs.2.1]; exact hx y hy
      have lw := lossWith_eq hR hp' hl' ht (p := j) hx'
      obtain ⟨c1, c2⟩ := cdN_ok ho hj
      have step : lX2_findCall_27 (pR σ 0 8) (nI t) (nI (outS τ t)) k (F + 1) (nI j) s = if outB τ t j = false then pbind (fX2_weighCall s (nI j) (nI t) (nI (lsC τ j t))) fun _ σ17 => lX2_findCall_27 (pR σ 0 8) (nI t) (nI (outS τ t)) k F (nI (j + 1)) σ17 else lX2_findCall_27 (pR σ 0 8) (nI t) (nI (outS τ t)) k F (nI (j + 1)) s := by
        rw [lX2_findCall_27.eq_2, e8, hV hR, hPn hR, if_pos rfl, if_neg (nI_nge (by omega) (by omega)), q_bit (by omega) (by omega), outS_bit hj, q_one (by omega), q_or, payableDebts_eq hR ht (by have := op j (by omega); omega), obind_some, show bset (fun d => payB τ (outS τ t ||| 2 ^ j).testBit d t) (td τ) = mayO τ t (outS τ t ||| 2 ^ j).testBit from rfl, lw, pbind_some, pin_lit (show j < 6 by omega) (by decide), if_pos rfl, nI_clamp (show j < 2 ^ 31 by omega), hC hR hj, c1, nI_add, plet_eq, nI_1]
        simp only [b2i_0]
        rfl
      cases q : outB τ t j
      · obtain ⟨s', w1, w2, w3, w4⟩ := weigh_eq (S' := fun p' t' => t' < t ∨ (t' = t ∧ p' < j + 1)) ho ⟨hj, ht, q⟩ hs.2.2 (fun p' t' => by
          constructor
          · intro z; omega
          · intro z; omega) (fun p' t' z => z)
        refine ⟨s', ?_, FC_tr hs.1 w2, fun i => (w3 i).trans (hs.2.1 i), w4⟩
        show lX2_findCall_27 _ _ _ _ (F + 1) _ s = _
        rw [step, q, if_pos rfl, w1, pbind_some]
      · refine ⟨s, ?_, hs.1, hs.2.1, ?_⟩
        · show lX2_findCall_27 _ _ _ _ (F + 1) _ s = _
          rw [step, q]; rfl
        · have nc : ∀ p' t', p' = j ∧ t' = t → ¬ cand τ p' t' := fun p' t' e z => by
            rw [e.1, e.2] at z
            have := z.2.2
            rw [q] at this
            exact absurd this (by decide)
          rcases hs.2.2 with ⟨e1, e2⟩ | ⟨p, u, b, e1, e2, e3⟩
          · refine Or.inl ⟨e1, fun p' t' z => ?_⟩
            by_cases y : p' = j ∧ t' = t
            · exact nc p' t' y
            · exact e2 p' t' (by omega)
          · refine Or.inr ⟨p, u, ⟨by have := b.1; omega, b.2.1, fun p' t' z z2 => ?_⟩, e1, e2, e3⟩
            by_cases y : p' = j ∧ t' = t
            · exact absurd z2 (nc p' t' y)
            · exact b.2.2 p' t' (by omega) z2)
  refine ⟨σ', h1, h2, h3, ?_⟩
  rcases h4 with ⟨e1, e2⟩ | ⟨p, u, b, e1, e2, e3⟩
  · exact Or.inl ⟨e1, fun p' t' z y => e2 p' t' (by have := y.1; omega) y⟩
  · exact Or.inr ⟨p, u, ⟨by have := b.1; omega, b.2.1, fun p' t' z y => b.2.2 p' t' (by have := y.1; omega) y⟩, e1, e2, e3⟩
theorem findCall_eq {σ τ : pS} (h : RR σ τ) (hp : payX σ (mayS τ)) (hl : LTX σ τ (mayS τ) 0) : ∃ r σ', fX2_findCall σ (pR σ 0 8) = some (r, σ') ∧ FC σ σ' ∧ ((r = 0 ∧ ∀ p t, ¬ cand τ p t) ∨ (r = 1 ∧ ∃ p t, bstC τ (fun _ _ => True) p t ∧ pI σ' 3 9 = nI (lsC τ p t) ∧ pI σ' 3 10 = nI p ∧ pI σ' 3 11 = nI t)) := by
  have ho := h.2.2.2.2.1
  have o1 := hN6 h
  have hv := vl_ge h.2.2.2.1
  unfold fX2_findCall
  rw [plet_eq]
  have R1 : RR (sI σ 3 10 (-9)) τ := RR_FX h (FX_sI hv (by omega))
  obtain ⟨σ4, f1, f2, f3⟩ := startBefore_eq R1 (mayS τ)
  rw [f1, pbind_some]
  obtain ⟨σ', g1, g2, g3, g4⟩ := whS (fun F s v => lX2_findCall_12 (pR σ 0 8) (fun (σ22 : pS) => if (pI σ22 3 10) = (-9 : Int32) then some ((0 : Int32), σ22) else some ((1 : Int32), σ22)) F v s) (n := 12) (by decide) (fun j s => FC σ s ∧ PX s τ (mayS τ) j ∧ XB τ (fun _ t' => t' < j) s) (fun (σ22 : pS) => if (pI σ22 3 10) = (-9 : Int32) then some ((0 : Int32), σ22) else some ((1 : Int32), σ22)) σ4 ⟨FC_tr (FC_s (by decide)) (FC_only f2), f3, Or.inl ⟨by rw [f2.1 3 10 (by decide), pI_sI_eq], fun p t z => absurd z (Nat.not_lt_zero t)⟩⟩ (fun F s hs => by
      show lX2_findCall_12 _ _ (F + 1) _ s = _
      rw [lX2_findCall_12.eq_2, if_pos (show (12 : Int32) ≤ nI 12 by decide)]) (fun F s j hj hs => by
      have hR : RR s τ := RR_FX h (FC_FX hv hs.1)
      have e8 : pR σ 0 8 = pR s 0 8 := (hs.1.2.2 0 8).symm
      have hp' : payX s (mayS τ) := fun x hx' => by rw [hs.1.1 14 x (by decide) (by omega)]; exact hp x hx'
      have hl' : LTX s τ (mayS τ) 0 := fun x x1 x2 y hy => by rw [hs.1.1 _ _ (by omega) (by omega)]; exact hl x x1 x2 y hy
      obtain ⟨s', c1, c2, c3, c4⟩ := call_hour hR hp' hl' hj hs.2.1 hs.2.2 (fun (σ18 : pS) => pbind (fX2_passHour σ18 (nI j)) fun _ σ21 => lX2_findCall_12 (pR s 0 8) (fun (σ22 : pS) => if (pI σ22 3 10) = (-9 : Int32) then some ((0 : Int32), σ22) else some ((1 : Int32), σ22)) F (nI j + (1 : Int32)) σ21)
      have R' : RR s' τ := RR_FX hR (FC_FX (vl_ge hR.2.2.2.1) c2)
      obtain ⟨s'', b1, b2, b3⟩ := passHour_eq R' (mayS_D τ) (fun x hx' => by rw [c2.1 14 x (by decide) (by omega)]; exact hp' x hx') hj (fun y hy => by rw [c3]; exact hs.2.1 y hy)
      refine ⟨s'', ?_, FC_tr (FC_tr hs.1 c2) (FC_only b2), b3, ?_⟩
      · show lX2_findCall_12 _ _ (F + 1) _ s = _
        rw [lX2_findCall_12.eq_2, if_neg (show ¬ (12 : Int32) ≤ nI j from nI_nge (b := 12) hj (by decide)), e8, hV hR, if_pos rfl, peopleOut_eq hR hj, obind_some]
        refine c1.trans ?_
        rw [b1, pbind_some, nI_1]
      · unfold XB
        rw [b2.1 3 9 (by decide), b2.1 3 10 (by decide), b2.1 3 11 (by decide)]
        exact c4)
  have k1 : (if (pI σ' 3 10) = (-9 : Int32) then some ((0 : Int32), σ') else some ((1 : Int32), σ')) = some (if pI σ' 3 10 = -9 then 0 else 1, σ') := by split <;> rfl
  refine ⟨if pI σ' 3 10 = -9 then 0 else 1, σ', g1.trans k1, g2, ?_⟩
  rcases g4 with ⟨e1, e2⟩ | ⟨p, u, b, e1, e2, e3⟩
  · exact Or.inl ⟨if_pos e1, fun p t z => e2 p t z.2.1 z⟩
  · have := b.2.1.1
    exact Or.inr ⟨if_neg (by rw [e2]; exact nI_ne_m9 (by omega)), p, u, ⟨trivial, b.2.1, fun p' t' _ y => b.2.2 p' t' y.2.1 y⟩, e1, e2, e3⟩
