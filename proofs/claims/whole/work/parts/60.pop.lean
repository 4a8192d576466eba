/-! PURE: how many bits -/
def pop (s : Nat) : Nat := cnt s.testBit 12
theorem bits_all : ∀ a, a < 64 → ∀ b, b < 64 → fX5_bits (nI (64 * a + b)) = some (nI (pop (64 * a + b))) := by decide +kernel
theorem bitc_all : ∀ a, a < 64 → ∀ b, b < 64 → fJ6_bitCount_0f7a4 (nI (64 * a + b)) = some (nI (pop (64 * a + b))) := by decide +kernel
theorem bits_eq {s : Nat} (h : s < 4096) : fX5_bits (nI s) = some (nI (pop s)) := by
  have := bits_all (s / 64) (by omega) (s % 64) (by omega)
  rwa [show 64 * (s / 64) + s % 64 = s by omega] at this
theorem bitc_eq {s : Nat} (h : s < 4096) : fJ6_bitCount_0f7a4 (nI s) = some (nI (pop s)) := by
  have := bitc_all (s / 64) (by omega) (s % 64) (by omega)
  rwa [show 64 * (s / 64) + s % 64 = s by omega] at this
theorem pop_le (s : Nat) : pop s ≤ 12 := cnt_le _ _
