/-! the shapes of the two worlds -/
def shM : pSh := fun e => match e with
  | 0 => .inl (5, [0, 4, 0, 1, 1, 5, 6, 7, 8, 9, 0, 10, 0, 11, 0, 0, 0, 0, 0, 12, 13, 14, 0, 15, 16, 17, 18, 19, 20, 1])
  | 1 => .inr (0, 6, 0)
  | 2 => .inr (0, 6, 0)
  | 3 => .inr (0, 360, 0)
  | 4 => .inr (0, 60, 0)
  | 5 => .inr (0, 4, 0)
  | 6 => .inr (2, 480, 0)
  | 7 => .inr (0, 24, 0)
  | 8 => .inr (0, 40, 0)
  | 9 => .inr (0, 24, 0)
  | 10 => .inr (0, 40, 0)
  | 11 => .inr (0, 8, 0)
  | 12 => .inr (0, 3328, 0)
  | 13 => .inr (1, 3328, 0)
  | 14 => .inr (3, 256, 0)
  | 15 => .inr (0, 6, 0)
  | 16 => .inr (3, 3, 0)
  | _ => .inr (0, 24, 0)
def wM : pW := (shM, 18, false)
def isV (e : Nat) : Bool := e == 46 || e == 55
def shX : pSh := fun e =>
  if isV e then .inl (3, [0, 0, 0, e + 1 + 3, e + 2 + 3, e + 3 + 3, e + 4 + 3, e + 5 + 3, e + 6 + 3, e + 7 + 3, e + 8 + 3])
  else if (47 ≤ e ∧ e < 51) ∨ (56 ≤ e ∧ e < 60) then .inr (0, 6, 0)
  else if 51 ≤ e then .inr (0, 8, 0)
  else if 33 ≤ e then .inr (0, 256, 0)
  else if 30 ≤ e then .inr (0, 8, 0)
  else if 26 ≤ e then .inr (2, 120, 0)
  else if 20 ≤ e then .inr (0, 60, 0)
  else match e with
  | 0 => .inl (4, [7, 8, 9, 10, 4, 5, 6, 11, 2, 0, 1, 1, 0])
  | 1 => .inl (1, [2, 0, 0, 0, 2])
  | 2 => .inl (0, [12, 13, 14])
  | 3 => .inl (2, [0, 0, 15, 16, 17, 18, 19, 20, 21, 0, 0, 0])
  | 4 => .inr (4, 6, 20)
  | 5 => .inr (0, 6, 0)
  | 6 => .inr (5, 4, 26)
  | 7 => .inr (0, 4, 0)
  | 8 => .inr (0, 6, 0)
  | 9 => .inr (0, 8, 0)
  | 10 => .inr (4, 3, 30)
  | 11 => .inr (3, 3, 0)
  | 12 => .inr (3, 256, 0)
  | 13 => .inr (0, 256, 0)
  | 14 => .inr (0, 12, 0)
  | 15 => .inr (4, 13, 33)
  | 16 => .inr (0, 256, 0)
  | 17 => .inr (1, 256, 0)
  | 18 => .inr (0, 8, 0)
  | _ => .inr (2, 0, 0)
def wX : pW := (shX, 64, true)
theorem isV_or {v : Nat} (h : isV v = true) : v = 46 ∨ v = 55 := by simpa [isV] using h
theorem shV {v : Nat} (h : isV v = true) : wX.1 v = .inl (3, [0, 0, 0, v + 1 + 3, v + 2 + 3, v + 3 + 3, v + 4 + 3, v + 5 + 3, v + 6 + 3, v + 7 + 3, v + 8 + 3]) := by
  show shX v = _
  unfold shX
  rw [if_pos h]
theorem ltV {v : Nat} (h : isV v = true) : v < wX.2.1 := by rcases isV_or h with rfl | rfl <;> decide
theorem shV1 {v : Nat} (h : isV v = true) : wX.1 (v + 1) = .inr (0, 6, 0) ∧ v + 1 < wX.2.1 := by rcases isV_or h with rfl | rfl <;> exact ⟨rfl, by decide⟩
theorem shV2 {v : Nat} (h : isV v = true) : wX.1 (v + 2) = .inr (0, 6, 0) ∧ v + 2 < wX.2.1 := by rcases isV_or h with rfl | rfl <;> exact ⟨rfl, by decide⟩
theorem shV3 {v : Nat} (h : isV v = true) : wX.1 (v + 3) = .inr (0, 6, 0) ∧ v + 3 < wX.2.1 := by rcases isV_or h with rfl | rfl <;> exact ⟨rfl, by decide⟩
theorem shV4 {v : Nat} (h : isV v = true) : wX.1 (v + 4) = .inr (0, 6, 0) ∧ v + 4 < wX.2.1 := by rcases isV_or h with rfl | rfl <;> exact ⟨rfl, by decide⟩
theorem shV5 {v : Nat} (h : isV v = true) : wX.1 (v + 5) = .inr (0, 8, 0) ∧ v + 5 < wX.2.1 := by rcases isV_or h with rfl | rfl <;> exact ⟨rfl, by decide⟩
theorem shV6 {v : Nat} (h : isV v = true) : wX.1 (v + 6) = .inr (0, 8, 0) ∧ v + 6 < wX.2.1 := by rcases isV_or h with rfl | rfl <;> exact ⟨rfl, by decide⟩
theorem shV7 {v : Nat} (h : isV v = true) : wX.1 (v + 7) = .inr (0, 8, 0) ∧ v + 7 < wX.2.1 := by rcases isV_or h with rfl | rfl <;> exact ⟨rfl, by decide⟩
theorem shV8 {v : Nat} (h : isV v = true) : wX.1 (v + 8) = .inr (0, 8, 0) ∧ v + 8 < wX.2.1 := by rcases isV_or h with rfl | rfl <;> exact ⟨rfl, by decide⟩
theorem pin_lt {i : Int32} {n : Nat} (h : pin i n = true) : i.toNatClampNeg < n := by simp [pin] at h; exact h.2
theorem sh_row : ∀ k, k < 6 → wX.1 (20 + k) = .inr (0, 60, 0) ∧ 20 + k < wX.2.1 := by decide
theorem sh_text : ∀ k, k < 4 → wX.1 (26 + k) = .inr (2, 120, 0) ∧ 26 + k < wX.2.1 := by decide
theorem sh_kept : ∀ k, k < 3 → wX.1 (30 + k) = .inr (0, 8, 0) ∧ 30 + k < wX.2.1 := by decide
theorem sh_rest : ∀ k, k < 13 → wX.1 (33 + k) = .inr (0, 256, 0) ∧ 33 + k < wX.2.1 := by decide
