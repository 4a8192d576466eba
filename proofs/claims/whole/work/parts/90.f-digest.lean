/-! PURE: digest -/
def hsh (h : Int64) (f : Nat → Int32) : Nat → Int64
  | 0 => h
  | n + 1 => 31 * hsh h f n + (f n).toInt64
theorem hsh_s (h : Int64) (f : Nat → Int32) (n : Nat) : hsh h f (n + 1) = 31 * hsh h f n + (f n).toInt64 := rfl
theorem hsh_app (h : Int64) (f : Nat → Int32) (a : Nat) : ∀ b, hsh h f (a + b) = hsh (hsh h f a) (fun i => f (a + i)) b
  | 0 => rfl
  | b + 1 => by rw [← Nat.add_assoc, hsh_s, hsh_s, hsh_app h f a b]
theorem hsh_congr (h : Int64) {f g : Nat → Int32} : ∀ n, (∀ i, i < n → f i = g i) → hsh h f n = hsh h g n
  | 0, _ => rfl
  | n + 1, e => by rw [hsh_s, hsh_s, hsh_congr h n (fun i hi => e i (by omega)), e n (by omega)]
def hst (τ : pS) (a : Int64) : pS := sL τ 0 29 a
theorem hst_I (τ : pS) (a : Int64) (e i : Nat) : pI (hst τ a) e i = pI τ e i := rfl
theorem hst_L (τ : pS) (a : Int64) : pL (hst τ a) 0 29 = a := by
  unfold hst
  rw [pL_sL, if_pos ⟨rfl, rfl⟩]
theorem hst_FM (τ : pS) (a : Int64) : FM τ (hst τ a) := ⟨fun _ _ _ _ _ _ _ _ _ _ => rfl, fun _ _ => rfl, by unfold hst; rw [pL_sL, if_neg (by decide)], by unfold hst; rw [pL_sL, if_neg (by decide)]⟩
theorem hst_hst (τ : pS) (a b : Int64) : sL (hst τ a) 0 29 b = hst τ b := pS_ext (fun _ _ => rfl) (fun e i => by
  unfold hst
  rw [pL_sL, pL_sL, pL_sL]
  by_cases z : e = 0 ∧ i = 29
  · rw [if_pos z, if_pos z]
  · rw [if_neg z, if_neg z, if_neg z]) (fun _ _ => rfl)
theorem mix_eq (τ : pS) (a x : Int64) : fX5_mix (hst τ a) x = some ((), hst τ (31 * a + x)) := by
  unfold fX5_mix
  rw [plet_eq, hst_L, hst_hst]
set_option maxHeartbeats 100000 in
theorem xd_count {σ τ : pS} (h : RR σ τ) : ∃ cf : Nat → Int32, ∀ w, w < 8 → fX4_count σ (nI w) = some (cf w) ∧ ∀ a, fX5_counted (hst τ a) (nI w) = some (cf w) := by
  refine ⟨fun w => (fX4_count σ (nI w)).getD 0, fun w hw => ?_⟩
  obtain ⟨r, h1, h2⟩ := count_both h hw
  refine ⟨by simp [h1], fun a => ?_⟩
  obtain ⟨r', h3, h4⟩ := count_both (RR_FM h (hst_FM τ a)) hw
  rw [h1] at h3
  have e : r' = r := (Option.some.inj h3).symm
  exact h4.trans (by simp [h1, e])
theorem xd_one {σ τ : pS} (h : RR σ τ) {p k : Nat} (hp : p < tn τ) (hk : k < 4) : fX3_ofPerson σ (pR σ 0 8) (nI p) (nI k) = some (pI τ 7 (4 * p + k)) := by
  have o1 := hN6 h
  have hv7 := h.2.2.2.1.2.2.2.2.2.2.1 p hp
  unfold fX3_ofPerson
  rw [hV h, pin_lit (show p < 6 by omega) (by decide), nI_clamp (show p < 2 ^ 31 by omega)]
  rcases four hk with rfl | rfl | rfl | rfl
  · rw [if_pos (by decide)]; exact congrArg some hv7.1
  · rw [if_neg (by decide), if_pos (by decide)]; exact congrArg some hv7.2.1
  · rw [if_neg (by decide), if_neg (by decide), if_pos (by decide)]; exact congrArg some hv7.2.2.1
  · rw [if_neg (by decide), if_neg (by decide), if_neg (by decide)]; exact congrArg some hv7.2.2.2
theorem xd_debt {σ τ : pS} (h : RR σ τ) {d k : Nat} (hd : d < td τ) (hk : k < 5) : fX4_ofDebt σ (nI d) (nI k) = some (pI τ 8 (5 * d + k)) := by
  have o2 := hD8 h
  have hv8 := h.2.2.2.1.2.2.2.2.2.2.2 d hd
  unfold fX4_ofDebt
  rw [hV h, pin_lit (show d < 8 by omega) (by decide), nI_clamp (show d < 2 ^ 31 by omega)]
  rcases (show k = 0 ∨ k = 1 ∨ k = 2 ∨ k = 3 ∨ k = 4 by omega) with rfl | rfl | rfl | rfl | rfl
  · rw [if_pos (by decide)]; exact congrArg some hv8.1
  · rw [if_neg (by decide), if_pos (by decide)]; exact congrArg some hv8.2.1
  · rw [if_neg (by decide), if_neg (by decide), if_pos (by decide)]; exact congrArg some hv8.2.2.1
  · rw [if_neg (by decide), if_neg (by decide), if_neg (by decide), if_pos (by decide)]; exact congrArg some hv8.2.2.2.1
  · rw [if_neg (by decide), if_neg (by decide), if_neg (by decide), if_neg (by decide)]; exact congrArg some hv8.2.2.2.2
set_option maxHeartbeats 100000 in
theorem xd_vil {σ τ : pS} (h : RR σ τ) (H : Int64) : fX4_digestVillage σ H = some (hsh (hsh H (pI τ 7) (4 * tn τ)) (pI τ 8) (5 * td τ)) := by
  have o1 := hN6 h
  have o2 := hD8 h
  unfold fX4_digestVillage
  have inner1 : ∀ (p : Nat), p < tn τ → ∀ (G : Int64) (k : Int64 → Option Int64), lX4_digestVillage_20 σ (nI p) k FU G (nI 0) = k (hsh G (fun i => pI τ 7 (4 * p + i)) 4) := fun p hp G k => by
    refine whF (fun F (a : Int64) v => lX4_digestVillage_20 σ (nI p) k F a v) (n := 4) (by decide) (fun j => hsh G (fun i => pI τ 7 (4 * p + i)) j) _ (fun F => ?_) (fun F j hj => ?_)
    · show lX4_digestVillage_20 σ _ _ (F + 1) _ _ = _
      rw [lX4_digestVillage_20.eq_2, if_pos (show (3 : Int32) < nI 4 by decide)]
    · show lX4_digestVillage_20 σ _ _ (F + 1) _ _ = _
      rw [lX4_digestVillage_20.eq_2, if_neg (show ¬ (3 : Int32) < nI j from nI_nlt (a := 3) (b := j) (by omega) (by decide)), hV h, if_pos rfl, xd_one h hp hj, obind_some, plet_eq, nI_1, hsh_s]
  have inner2 : ∀ (d : Nat), d < td τ → ∀ (G : Int64) (k : Int64 → Option Int64), lX4_digestVillage_75 σ (nI d) k FU G (nI 0) = k (hsh G (fun i => pI τ 8 (5 * d + i)) 5) := fun d hd G k => by
    refine whF (fun F (a : Int64) v => lX4_digestVillage_75 σ (nI d) k F a v) (n := 5) (by decide) (fun j => hsh G (fun i => pI τ 8 (5 * d + i)) j) _ (fun F => ?_) (fun F j hj => ?_)
    · show lX4_digestVillage_75 σ _ _ (F + 1) _ _ = _
      rw [lX4_digestVillage_75.eq_2, if_pos (show (4 : Int32) < nI 5 by decide)]
    · show lX4_digestVillage_75 σ _ _ (F + 1) _ _ = _
      rw [lX4_digestVillage_75.eq_2, if_neg (show ¬ (4 : Int32) < nI j from nI_nlt (a := 4) (b := j) (by omega) (by decide)), xd_debt h hd hj, obind_some, plet_eq, nI_1, hsh_s]
  have outer1 : ∀ (k : Int64 → Option Int64), lX4_digestVillage_5 σ k FU H (nI 0) = k (hsh H (pI τ 7) (4 * tn τ)) := fun k => by
    refine whF (fun F (a : Int64) v => lX4_digestVillage_5 σ k F a v) (n := tn τ) (by omega) (fun j => hsh H (pI τ 7) (4 * j)) _ (fun F => ?_) (fun F j hj => ?_)
    · show lX4_digestVillage_5 σ _ (F + 1) _ _ = _
      rw [lX4_digestVillage_5.eq_2, hV h, hPn h, if_pos rfl, if_pos (nI_le (Nat.le_refl _) (by omega))]
    · show lX4_digestVillage_5 σ _ (F + 1) _ _ = _
      rw [lX4_digestVillage_5.eq_2, hV h, hPn h, if_pos rfl, if_neg (nI_nge (by omega) (by omega))]
      refine (inner1 j hj _ _).trans ?_
      rw [nI_1, show 4 * (j + 1) = 4 * j + 4 by omega, hsh_app]
  have outer2 : ∀ (G : Int64) (k : Int64 → Option Int64), lX4_digestVillage_60 σ k FU G (nI 0) = k (hsh G (pI τ 8) (5 * td τ)) := fun G k => by
    refine whF (fun F (a : Int64) v => lX4_digestVillage_60 σ k F a v) (n := td τ) (by omega) (fun j => hsh G (pI τ 8) (5 * j)) _ (fun F => ?_) (fun F j hj => ?_)
    · show lX4_digestVillage_60 σ _ (F + 1) _ _ = _
      rw [lX4_digestVillage_60.eq_2, hV h, hD h, if_pos rfl, if_pos (nI_le (Nat.le_refl _) (by omega))]
    · show lX4_digestVillage_60 σ _ (F + 1) _ _ = _
      rw [lX4_digestVillage_60.eq_2, hV h, hD h, if_pos rfl, if_neg (nI_nge (by omega) (by omega))]
      refine (inner2 j hj _ _).trans ?_
      rw [nI_1, show 5 * (j + 1) = 5 * j + 5 by omega, hsh_app]
  refine (outer1 _).trans ?_
  exact outer2 _ _
def kpH (τ : pS) (H : Int64) : Nat → Int64
  | 0 => H
  | k + 1 => if pI τ 16 k = 0 then 31 * kpH τ H k + (-1) else hsh (kpH τ H k) (fun d => pI τ 17 (8 * k + d)) (td τ)
theorem kpH_s (τ : pS) (H : Int64) (k : Nat) : kpH τ H (k + 1) = if pI τ 16 k = 0 then 31 * kpH τ H k + (-1) else hsh (kpH τ H k) (fun d => pI τ 17 (8 * k + d)) (td τ) := rfl
set_option maxHeartbeats 100000 in
theorem xd_kept {σ τ : pS} (h : RR σ τ) (H : Int64) {N : Nat} (hN : N = 3) : fX4_digestKeptBooks σ H = some (kpH τ H N) := by
  have o2 := hD8 h
  unfold fX4_digestKeptBooks
  refine whF (fun F (a : Int64) v => lX4_digestKeptBooks_5 σ (fun y6 => some y6) F a v) (n := N) (by omega) (fun j => kpH τ H j) _ (fun F => ?_) (fun F j hj => ?_)
  · show lX4_digestKeptBooks_5 σ _ (F + 1) _ _ = _
    rw [lX4_digestKeptBooks_5.eq_2, hN, if_pos (show (3 : Int32) ≤ nI 3 by decide)]
  · show lX4_digestKeptBooks_5 σ _ (F + 1) _ _ = _
    rw [lX4_digestKeptBooks_5.eq_2, if_neg (show ¬ (3 : Int32) ≤ nI j from nI_nge (b := 3) (by omega) (by decide)), pin_lit (show j < 3 by omega) (by decide), if_pos rfl, nI_clamp (show j < 2 ^ 31 by omega), kpH_s]
    rcases h.2.2.2.2.2.1 j (by omega) with ⟨e1, e2⟩ | ⟨e1, e2, e3⟩
    · rw [e1, e2, if_pos rfl, if_pos rfl, plet_eq, nI_1]
    · rw [e1, e2, if_neg i10, if_neg i10]
      refine (whF (fun F' (a : Int64) v => lX4_digestKeptBooks_40 σ (nI j) _ F' a v) (n := td τ) (by omega) (fun i => hsh (kpH τ H j) (fun d => pI τ 17 (8 * j + d)) i) (lX4_digestKeptBooks_5 σ (fun y6 => some y6) F (hsh (kpH τ H j) (fun d => pI τ 17 (8 * j + d)) (td τ)) (nI (j + 1))) (fun F' => ?_) (fun F' i hi => ?_))
      · show lX4_digestKeptBooks_40 σ _ _ (F' + 1) _ _ = _
        rw [lX4_digestKeptBooks_40.eq_2, hV h, hD h, if_pos rfl, if_pos (nI_le (Nat.le_refl _) (by omega)), nI_1]
      · show lX4_digestKeptBooks_40 σ _ _ (F' + 1) _ _ = _
        rw [lX4_digestKeptBooks_40.eq_2, hV h, hD h, if_pos rfl, if_neg (nI_nge (by omega) (by omega)), pin_lit (show j < 3 by omega) (by decide), pin_lit (show i < 8 by omega) (by decide), if_pos rfl, if_pos rfl, nI_clamp (show j < 2 ^ 31 by omega), nI_clamp (show i < 2 ^ 31 by omega), (e3 i hi).1, plet_eq, nI_1, nI_1, hsh_s]
set_option maxHeartbeats 100000 in
theorem md_vil {σ τ : pS} (h : RR σ τ) (H : Int64) {N : Nat} (hN : N = 3) : fX5_mixVillage (hst τ H) = some ((), hst τ (kpH τ (hsh (hsh (31 * H + (pI τ 0 14).toInt64) (pI τ 7) (4 * tn τ)) (pI τ 8) (5 * td τ)) N)) := by
  have ho := h.2.2.2.2.1
  have o1 := hN6 h
  have o2 := hD8 h
  unfold fX5_mixVillage
  rw [mix_eq, pbind_some, hst_I]
  have l1 : ∀ (G : Int64) (k : pS → Option (Unit × pS)), lX5_mixVillage_11 k FU (nI 0) (hst τ G) = k (hst τ (hsh G (pI τ 7) (4 * tn τ))) := fun G k => by
    refine whF (fun F (a : Int64) v => lX5_mixVillage_11 k F v (hst τ a)) (n := 4 * tn τ) (by omega) (fun j => hsh G (pI τ 7) j) _ (fun F => ?_) (fun F j hj => ?_)
    · show lX5_mixVillage_11 _ (F + 1) _ _ = _
      rw [lX5_mixVillage_11.eq_2, hst_I, ho.2.2.1, show (4 : Int32) = nI 4 from rfl, pk_mul, if_pos (nI_le (Nat.le_refl _) (by omega))]
    · show lX5_mixVillage_11 _ (F + 1) _ _ = _
      rw [lX5_mixVillage_11.eq_2, hst_I, ho.2.2.1, show (4 : Int32) = nI 4 from rfl, pk_mul, if_neg (nI_nge (by omega) (by omega)), pin_lit (show j < 24 by omega) (by decide), if_pos rfl, nI_clamp (show j < 2 ^ 31 by omega), hst_I, mix_eq, pbind_some, nI_1, hsh_s]
  have l2 : ∀ (G : Int64) (k : pS → Option (Unit × pS)), lX5_mixVillage_40 k FU (nI 0) (hst τ G) = k (hst τ (hsh G (pI τ 8) (5 * td τ))) := fun G k => by
    refine whF (fun F (a : Int64) v => lX5_mixVillage_40 k F v (hst τ a)) (n := 5 * td τ) (by omega) (fun j => hsh G (pI τ 8) j) _ (fun F => ?_) (fun F j hj => ?_)
    · show lX5_mixVillage_40 _ (F + 1) _ _ = _
      rw [lX5_mixVillage_40.eq_2, hst_I, ho.2.2.2.1, show (5 : Int32) = nI 5 from rfl, pk_mul, if_pos (nI_le (Nat.le_refl _) (by omega))]
    · show lX5_mixVillage_40 _ (F + 1) _ _ = _
      rw [lX5_mixVillage_40.eq_2, hst_I, ho.2.2.2.1, show (5 : Int32) = nI 5 from rfl, pk_mul, if_neg (nI_nge (by omega) (by omega)), pin_lit (show j < 40 by omega) (by decide), if_pos rfl, nI_clamp (show j < 2 ^ 31 by omega), hst_I, mix_eq, pbind_some, nI_1, hsh_s]
  have l3 : ∀ (G : Int64) (k : pS → Option (Unit × pS)), lX5_mixVillage_69 k FU (nI 0) (hst τ G) = k (hst τ (kpH τ G N)) := fun G k => by
    refine whF (fun F (a : Int64) v => lX5_mixVillage_69 k F v (hst τ a)) (n := N) (by omega) (fun j => kpH τ G j) _ (fun F => ?_) (fun F j hj => ?_)
    · show lX5_mixVillage_69 _ (F + 1) _ _ = _
      rw [lX5_mixVillage_69.eq_2, hN, if_pos (show (3 : Int32) ≤ nI 3 by decide)]
    · show lX5_mixVillage_69 _ (F + 1) _ _ = _
      rw [lX5_mixVillage_69.eq_2, if_neg (show ¬ (3 : Int32) ≤ nI j from nI_nge (b := 3) (by omega) (by decide)), pin_lit (show j < 3 by omega) (by decide), if_pos rfl, nI_clamp (show j < 2 ^ 31 by omega), hst_I, kpH_s]
      simp only [plet_eq, mix_eq, pbind_some]
      by_cases z : pI τ 16 j = 0
      · rw [if_pos z, if_pos z, show FU = 999 + 1 from rfl, lX5_mixVillage_92.eq_2, hst_I, ho.2.2.2.1, hst_I, pin_lit (show j < 3 by omega) (by decide), nI_clamp (show j < 2 ^ 31 by omega), if_pos rfl, if_pos z, nI_1]
        split <;> rfl
      · rw [if_neg z, if_neg z]
        refine (whF (fun F' (a : Int64) v => lX5_mixVillage_92 (nI j) _ F' v (hst τ a)) (n := td τ) (by omega) (fun i => hsh (kpH τ G j) (fun d => pI τ 17 (8 * j + d)) i) (lX5_mixVillage_69 k F (nI (j + 1)) (hst τ (hsh (kpH τ G j) (fun d => pI τ 17 (8 * j + d)) (td τ)))) (fun F' => ?_) (fun F' i hi => ?_))
        · show lX5_mixVillage_92 _ _ (F' + 1) _ _ = _
          rw [lX5_mixVillage_92.eq_2, hst_I, ho.2.2.2.1, if_pos (nI_le (Nat.le_refl _) (by omega)), nI_1]
        · show lX5_mixVillage_92 _ _ (F' + 1) _ _ = _
          rw [lX5_mixVillage_92.eq_2, hst_I, ho.2.2.2.1, if_neg (nI_nge (by omega) (by omega)), pin_lit (show j < 3 by omega) (by decide), if_pos rfl, nI_clamp (show j < 2 ^ 31 by omega), hst_I, if_neg z, n8, pin_lit (show 8 * j + i < 24 by omega) (by decide), if_pos rfl, nI_clamp (show 8 * j + i < 2 ^ 31 by omega), hst_I, mix_eq, pbind_some, nI_1, nI_1, hsh_s]
  refine (l1 _ _).trans ((l2 _ _).trans ?_)
  exact l3 _ _
def szN (τ : pS) (e r : Nat) : Nat := (pI τ e r).toNatClampNeg
def rwH (τ : pS) (H : Int64) : Nat → Int64
  | 0 => H
  | r + 1 => hsh (31 * rwH τ H r + (pI τ 2 r).toInt64) (fun i => pI τ 3 (60 * r + i)) (szN τ 2 r)
theorem rwH_s (τ : pS) (H : Int64) (r : Nat) : rwH τ H (r + 1) = hsh (31 * rwH τ H r + (pI τ 2 r).toInt64) (fun i => pI τ 3 (60 * r + i)) (szN τ 2 r) := rfl
def txH (τ : pS) (H : Int64) : Nat → Int64
  | 0 => H
  | r + 1 => hsh (31 * txH τ H r + (pI τ 5 r).toInt64) (fun i => pI τ 6 (120 * r + i)) (szN τ 5 r)
theorem txH_s (τ : pS) (H : Int64) (r : Nat) : txH τ H (r + 1) = hsh (31 * txH τ H r + (pI τ 5 r).toInt64) (fun i => pI τ 6 (120 * r + i)) (szN τ 5 r) := rfl
/-- a size is a number, or nothing is there -/
theorem sz_row {σ τ : pS} (h : RR σ τ) {r : Nat} (hr : r < 6) : pI σ 5 r = pI τ 2 r ∧ szN τ 2 r ≤ 60 ∧ pI τ 2 r ≤ nI (szN τ 2 r) ∧ (∀ i, i < szN τ 2 r → ¬ pI τ 2 r ≤ nI i ∧ pI σ (20 + r) i = pI τ 3 (60 * r + i)) := by
  unfold szN
  rcases h.2.1 r hr with ⟨e1, e2⟩ | ⟨s, hs, e1, e2, e3⟩
  · rw [e1, e2, show ((-1 : Int32)).toNatClampNeg = 0 by decide]
    exact ⟨rfl, by decide, by decide, fun i hi => absurd hi (Nat.not_lt_zero i)⟩
  · rw [e1, e2, nI_clamp (by omega)]
    exact ⟨rfl, hs, nI_le (Nat.le_refl _) (by omega), fun i hi => ⟨nI_nge hi (by omega), e3 i hi⟩⟩
theorem sz_text {σ τ : pS} (h : RR σ τ) {r : Nat} (hr : r < 4) : pI σ 7 r = pI τ 5 r ∧ szN τ 5 r ≤ 120 ∧ pI τ 5 r ≤ nI (szN τ 5 r) ∧ (∀ i, i < szN τ 5 r → ¬ pI τ 5 r ≤ nI i ∧ pI σ (26 + r) i = pI τ 6 (120 * r + i)) := by
  unfold szN
  rcases h.2.2.1 r hr with ⟨e1, e2⟩ | ⟨s, hs, e1, e2, e3⟩
  · rw [e1, e2, show ((-1 : Int32)).toNatClampNeg = 0 by decide]
    exact ⟨rfl, by decide, by decide, fun i hi => absurd hi (Nat.not_lt_zero i)⟩
  · rw [e1, e2, nI_clamp (by omega)]
    exact ⟨rfl, hs, nI_le (Nat.le_refl _) (by omega), fun i hi => ⟨nI_nge hi (by omega), e3 i hi⟩⟩
set_option maxHeartbeats 100000 in
theorem xd_rows {σ τ : pS} (h : RR σ τ) (H : Int64) (k : Int64 → Option Int64) {N : Nat} (hN : N = 6) : lX4_digest_60 σ k FU H (nI 0) = k (rwH τ H N) := by
  refine whF (fun F (a : Int64) v => lX4_digest_60 σ k F a v) (n := N) (by omega) (fun j => rwH τ H j) _ (fun F => ?_) (fun F j hj => ?_)
  · show lX4_digest_60 σ _ (F + 1) _ _ = _
    rw [lX4_digest_60.eq_2, hN, if_pos (show (6 : Int32) ≤ nI 6 by decide)]
  · show lX4_digest_60 σ _ (F + 1) _ _ = _
    obtain ⟨z1, z2, z3, z4⟩ := sz_row h (r := j) (by omega)
    rw [lX4_digest_60.eq_2, if_neg (show ¬ (6 : Int32) ≤ nI j from nI_nge (b := 6) (by omega) (by decide)), pin_lit (show j < 6 by omega) (by decide), if_pos rfl, nI_clamp (show j < 2 ^ 31 by omega), z1, plet_eq, rwH_s]
    refine (whF (fun F' (a : Int64) v => lX4_digest_83 σ (nI j) _ F' a v) (n := szN τ 2 j) (by omega) (fun i => hsh (31 * rwH τ H j + (pI τ 2 j).toInt64) (fun i => pI τ 3 (60 * j + i)) i) (lX4_digest_60 σ k F (hsh (31 * rwH τ H j + (pI τ 2 j).toInt64) (fun i => pI τ 3 (60 * j + i)) (szN τ 2 j)) (nI (j + 1))) (fun F' => ?_) (fun F' i hi => ?_))
    · show lX4_digest_83 σ _ _ (F' + 1) _ _ = _
      rw [lX4_digest_83.eq_2, pin_lit (show j < 6 by omega) (by decide), if_pos rfl, nI_clamp (show j < 2 ^ 31 by omega), z1, if_pos z3, nI_1]
    · show lX4_digest_83 σ _ _ (F' + 1) _ _ = _
      rw [lX4_digest_83.eq_2, pin_lit (show j < 6 by omega) (by decide), if_pos rfl, nI_clamp (show j < 2 ^ 31 by omega), z1, if_neg (z4 i hi).1, if_pos rfl, pin_lit (show i < 60 by omega) (by decide), if_pos rfl, nI_clamp (show i < 2 ^ 31 by omega), (z4 i hi).2, plet_eq, nI_1, nI_1, hsh_s]
set_option maxHeartbeats 100000 in
theorem xd_texts {σ τ : pS} (h : RR σ τ) (H : Int64) (k : Int64 → Option Int64) {N : Nat} (hN : N = 4) : lX4_digest_125 σ k FU H (nI 0) = k (txH τ H N) := by
  refine whF (fun F (a : Int64) v => lX4_digest_125 σ k F a v) (n := N) (by omega) (fun j => txH τ H j) _ (fun F => ?_) (fun F j hj => ?_)
  · show lX4_digest_125 σ _ (F + 1) _ _ = _
    rw [lX4_digest_125.eq_2, hN, if_pos (show (4 : Int32) ≤ nI 4 by decide)]
  · show lX4_digest_125 σ _ (F + 1) _ _ = _
    obtain ⟨z1, z2, z3, z4⟩ := sz_text h (r := j) (by omega)
    rw [lX4_digest_125.eq_2, if_neg (show ¬ (4 : Int32) ≤ nI j from nI_nge (b := 4) (by omega) (by decide)), pin_lit (show j < 4 by omega) (by decide), if_pos rfl, nI_clamp (show j < 2 ^ 31 by omega), z1, plet_eq, txH_s]
    refine (whF (fun F' (a : Int64) v => lX4_digest_147 σ (nI j) _ F' a v) (n := szN τ 5 j) (by omega) (fun i => hsh (31 * txH τ H j + (pI τ 5 j).toInt64) (fun i => pI τ 6 (120 * j + i)) i) (lX4_digest_125 σ k F (hsh (31 * txH τ H j + (pI τ 5 j).toInt64) (fun i => pI τ 6 (120 * j + i)) (szN τ 5 j)) (nI (j + 1))) (fun F' => ?_) (fun F' i hi => ?_))
    · show lX4_digest_147 σ _ _ (F' + 1) _ _ = _
      rw [lX4_digest_147.eq_2, pin_lit (show j < 4 by omega) (by decide), if_pos rfl, nI_clamp (show j < 2 ^ 31 by omega), z1, if_pos z3, nI_1]
    · show lX4_digest_147 σ _ _ (F' + 1) _ _ = _
      rw [lX4_digest_147.eq_2, pin_lit (show j < 4 by omega) (by decide), if_pos rfl, nI_clamp (show j < 2 ^ 31 by omega), z1, if_neg (z4 i hi).1, if_pos rfl, pin_lit (show i < 120 by omega) (by decide), if_pos rfl, nI_clamp (show i < 2 ^ 31 by omega), (z4 i hi).2, plet_eq, nI_1, nI_1, hsh_s]
set_option maxHeartbeats 100000 in
theorem md_rows {σ τ : pS} (h : RR σ τ) (H : Int64) (k : pS → Option (Int64 × pS)) {N : Nat} (hN : N = 6) : lX5_digest_37 k FU (nI 0) (hst τ H) = k (hst τ (rwH τ H N)) := by
  refine whF (fun F (a : Int64) v => lX5_digest_37 k F v (hst τ a)) (n := N) (by omega) (fun j => rwH τ H j) _ (fun F => ?_) (fun F j hj => ?_)
  · show lX5_digest_37 _ (F + 1) _ _ = _
    rw [lX5_digest_37.eq_2, hN, if_pos (show (6 : Int32) ≤ nI 6 by decide)]
  · show lX5_digest_37 _ (F + 1) _ _ = _
    obtain ⟨z1, z2, z3, z4⟩ := sz_row h (r := j) (by omega)
    rw [lX5_digest_37.eq_2, if_neg (show ¬ (6 : Int32) ≤ nI j from nI_nge (b := 6) (by omega) (by decide)), pin_lit (show j < 6 by omega) (by decide), if_pos rfl, nI_clamp (show j < 2 ^ 31 by omega), hst_I, mix_eq, pbind_some, rwH_s]
    refine (whF (fun F' (a : Int64) v => lX5_digest_56 (nI j) _ F' v (hst τ a)) (n := szN τ 2 j) (by omega) (fun i => hsh (31 * rwH τ H j + (pI τ 2 j).toInt64) (fun i => pI τ 3 (60 * j + i)) i) (lX5_digest_37 k F (nI (j + 1)) (hst τ (hsh (31 * rwH τ H j + (pI τ 2 j).toInt64) (fun i => pI τ 3 (60 * j + i)) (szN τ 2 j)))) (fun F' => ?_) (fun F' i hi => ?_))
    · show lX5_digest_56 _ _ (F' + 1) _ _ = _
      rw [lX5_digest_56.eq_2, pin_lit (show j < 6 by omega) (by decide), if_pos rfl, nI_clamp (show j < 2 ^ 31 by omega), hst_I, if_pos z3, nI_1]
    · show lX5_digest_56 _ _ (F' + 1) _ _ = _
      rw [lX5_digest_56.eq_2, pin_lit (show j < 6 by omega) (by decide), if_pos rfl, nI_clamp (show j < 2 ^ 31 by omega), hst_I, if_neg (z4 i hi).1, rowAt_eq (show j < 6 by omega) (show i < 60 by omega), obind_some, hst_I, mix_eq, pbind_some, nI_1, nI_1, hsh_s]
set_option maxHeartbeats 100000 in
theorem md_texts {σ τ : pS} (h : RR σ τ) (H : Int64) (k : pS → Option (Int64 × pS)) {N : Nat} (hN : N = 4) : lX5_digest_91 k FU (nI 0) (hst τ H) = k (hst τ (txH τ H N)) := by
  refine whF (fun F (a : Int64) v => lX5_digest_91 k F v (hst τ a)) (n := N) (by omega) (fun j => txH τ H j) _ (fun F => ?_) (fun F j hj => ?_)
  · show lX5_digest_91 _ (F + 1) _ _ = _
    rw [lX5_digest_91.eq_2, hN, if_pos (show (4 : Int32) ≤ nI 4 by decide)]
  · show lX5_digest_91 _ (F + 1) _ _ = _
    obtain ⟨z1, z2, z3, z4⟩ := sz_text h (r := j) (by omega)
    rw [lX5_digest_91.eq_2, if_neg (show ¬ (4 : Int32) ≤ nI j from nI_nge (b := 4) (by omega) (by decide)), pin_lit (show j < 4 by omega) (by decide), if_pos rfl, nI_clamp (show j < 2 ^ 31 by omega), hst_I, mix_eq, pbind_some, txH_s]
    refine (whF (fun F' (a : Int64) v => lX5_digest_109 (nI j) _ F' v (hst τ a)) (n := szN τ 5 j) (by omega) (fun i => hsh (31 * txH τ H j + (pI τ 5 j).toInt64) (fun i => pI τ 6 (120 * j + i)) i) (lX5_digest_91 k F (nI (j + 1)) (hst τ (hsh (31 * txH τ H j + (pI τ 5 j).toInt64) (fun i => pI τ 6 (120 * j + i)) (szN τ 5 j)))) (fun F' => ?_) (fun F' i hi => ?_))
    · show lX5_digest_109 _ _ (F' + 1) _ _ = _
      rw [lX5_digest_109.eq_2, pin_lit (show j < 4 by omega) (by decide), if_pos rfl, nI_clamp (show j < 2 ^ 31 by omega), hst_I, if_pos z3, nI_1]
    · show lX5_digest_109 _ _ (F' + 1) _ _ = _
      have by0 : ∀ a, fX5_byteAt (hst τ a) (nI j) (nI i) = some (pI τ 6 (120 * j + i)) := fun a => by
        unfold fX5_byteAt
        rw [pin_lit (show j < 4 by omega) (by decide), if_pos rfl, nI_clamp (show j < 2 ^ 31 by omega), hst_I, if_neg (z4 i hi).1, n120, pin_lit (show 120 * j + i < 480 by omega) (by decide), if_pos rfl, nI_clamp (show 120 * j + i < 2 ^ 31 by omega), hst_I]
      rw [lX5_digest_109.eq_2, pin_lit (show j < 4 by omega) (by decide), if_pos rfl, nI_clamp (show j < 2 ^ 31 by omega), hst_I, if_neg (z4 i hi).1, by0, obind_some, mix_eq, pbind_some, nI_1, nI_1, hsh_s]
set_option maxHeartbeats 100000 in
theorem o_digest : op_digest RR := by
  intro σ τ h
  obtain ⟨cf, hc⟩ := xd_count h
  have hl : pI σ (pR σ 0 8) 2 = pI τ 0 14 := h.2.2.2.1.2.2.2.2.2.1
  have key : ∀ N3 N4 N6 N8 : Nat, N3 = 3 → N4 = 4 → N6 = 6 → N8 = 8 → ∃ (r : Int64) (um : pS), fX4_digest σ = some r ∧ fX5_digest τ = some (r, um) ∧ RR σ um := fun N3 N4 N6 N8 e3 e4 e6 e8 => by
    have x1 : ∀ (k : Int64 → Option Int64), lX4_digest_6 σ k FU (17 : Int64) (nI 0) = k (hsh 17 cf N8) := fun k => by
      refine whF (fun F (a : Int64) v => lX4_digest_6 σ k F a v) (n := N8) (by omega) (fun j => hsh 17 cf j) _ (fun F => ?_) (fun F j hj => ?_)
      · show lX4_digest_6 σ _ (F + 1) _ _ = _
        rw [lX4_digest_6.eq_2, e8, if_pos (show (8 : Int32) ≤ nI 8 by decide)]
      · show lX4_digest_6 σ _ (F + 1) _ _ = _
        rw [lX4_digest_6.eq_2, if_neg (show ¬ (8 : Int32) ≤ nI j from nI_nge (b := 8) (by omega) (by decide)), (hc j (by omega)).1, obind_some, plet_eq, nI_1, hsh_s]
    have m1 : ∀ (k : pS → Option (Int64 × pS)), lX5_digest_9 k FU (nI 0) (hst τ 17) = k (hst τ (hsh 17 cf N8)) := fun k => by
      refine whF (fun F (a : Int64) v => lX5_digest_9 k F v (hst τ a)) (n := N8) (by omega) (fun j => hsh 17 cf j) _ (fun F => ?_) (fun F j hj => ?_)
      · show lX5_digest_9 _ (F + 1) _ _ = _
        rw [lX5_digest_9.eq_2, e8, if_pos (show (8 : Int32) ≤ nI 8 by decide)]
      · show lX5_digest_9 _ (F + 1) _ _ = _
        rw [lX5_digest_9.eq_2, if_neg (show ¬ (8 : Int32) ≤ nI j from nI_nge (b := 8) (by omega) (by decide)), (hc j (by omega)).2, obind_some, mix_eq, pbind_some, nI_1, hsh_s]
    refine ⟨txH τ (rwH τ (kpH τ (hsh (hsh (31 * hsh 17 cf N8 + (pI τ 0 14).toInt64) (pI τ 7) (4 * tn τ)) (pI τ 8) (5 * td τ)) N3) N6) N4, hst τ (txH τ (rwH τ (kpH τ (hsh (hsh (31 * hsh 17 cf N8 + (pI τ 0 14).toInt64) (pI τ 7) (4 * tn τ)) (pI τ 8) (5 * td τ)) N3) N6) N4), ?_, ?_, RR_FM h (hst_FM τ _)⟩
    · unfold fX4_digest
      refine (x1 _).trans ?_
      rw [hV h, if_pos rfl, hl, plet_eq, xd_vil h, obind_some, xd_kept h _ e3, obind_some]
      exact (xd_rows h _ _ e6).trans (xd_texts h _ _ e4)
    · unfold fX5_digest
      rw [plet_eq]
      refine (m1 _).trans ?_
      rw [md_vil h _ e3, pbind_some]
      refine (md_rows h _ _ e6).trans ((md_texts h _ _ e4).trans ?_)
      rw [hst_L]
  exact key 3 4 6 8 rfl rfl rfl rfl
