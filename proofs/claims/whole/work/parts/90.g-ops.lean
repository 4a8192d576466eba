/-! PURE: all operations; the start -/
theorem ops_R : Ops RR := ⟨o_row, o_lay, o_at, o_tear, o_copy, o_mean, o_text, o_put, o_fault, o_village, o_one, o_mark, o_debt, o_law, o_cards, o_habit, o_empty, o_when, o_hour, o_judge, o_worth, o_best, o_ways, o_soonest, o_rings, o_few, o_call, o_stay, o_against, o_family, o_pay, o_unpay, o_paid, o_keep, o_on, o_must, o_liars, o_asked, o_upper, o_lower, o_count, o_finding, o_findings, o_digest⟩
theorem R_start : ∀ f g : Nat → Nat → Int32, (∀ i, i < 6 → f 0 i = -1) → (∀ i, i < 4 → f 1 i = -1) → (∀ i, i < 8 → f 2 i = -9) → (∀ i, i < 6 → g 0 i = -1) → (∀ i, i < 4 → g 1 i = -1) → RR (sX0 f) (sM0 g) := by
  intro f g h1 h2 h3 h4 h5
  have en : tn (sM0 g) = 0 := rfl
  have ed : td (sM0 g) = 0 := rfl
  refine ⟨⟨rfl, rfl, rfl, rfl, fun _ _ => rfl⟩, fun r hr => Or.inl ⟨h1 r hr, h4 r hr⟩, fun r hr => Or.inl ⟨h2 r hr, h5 r hr⟩, ⟨rfl, rfl, by show (46 : Nat) ≠ 55; decide, rfl, rfl, rfl, fun p hp => ?_, fun d hd => ?_⟩, ⟨by rw [en]; decide, by rw [ed]; decide, rfl, rfl, ⟨0, by decide, rfl⟩, fun p hp => ?_, fun d hd => ?_⟩, fun k _ => Or.inl ⟨rfl, rfl⟩, ⟨rfl, rfl, fun s hs => ?_⟩⟩
  · rw [en] at hp; exact absurd hp (Nat.not_lt_zero p)
  · rw [ed] at hd; exact absurd hd (Nat.not_lt_zero d)
  · rw [en] at hp; exact absurd hp (Nat.not_lt_zero p)
  · rw [ed] at hd; exact absurd hd (Nat.not_lt_zero d)
  · rw [ed] at hs
    have : s = 0 := by
      have : 2 ^ 0 = 1 := rfl
      omega
    subst this
    refine ⟨?_, rfl⟩
    show upd (fun _ => 0) ((0 : Int32)).toNatClampNeg (vp_nar .boolean (1 : Int32)) 0 = b2i true
    rw [show ((0 : Int32)).toNatClampNeg = 0 by decide, pk_us, nar1]
    rfl
