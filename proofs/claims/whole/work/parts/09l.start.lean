/-! the two are matched at the start -/
theorem zi_a : ∀ k, k < 64 → zS0X.1 30 k = zS0M.1 1 (270 + k) ∧ 0 ≤ (zS0M.1 1 (270 + k)).toInt ∧ (zS0M.1 1 (270 + k)).toInt ≤ 9 := by decide +kernel
theorem zi_b : ∀ i, i < 9 → ∀ j, j < 9 → zS0M.1 1 (180 + 9 * i + j) = 0 := by decide +kernel
theorem zi_c : ∀ k, k < 4 → zS0X.1 19 k = zS0M.1 1 k := by decide +kernel
theorem zi_0 {RR : (Nat → Int32) → Int32 → Int32 → (Nat → Int32) → Prop} (h0 : RR (zS0X.1 21) (zS0X.1 20 1) (zS0X.1 20 2) (zS0M.1 1)) : zInv RR zS0X zS0M := by
  refine ⟨0, 0, 0, 0, 0, ⟨rfl, rfl, by omega, fun k => rfl, fun k => ?_⟩, ⟨rfl, rfl, rfl, rfl⟩, ⟨⟨rfl, rfl, by omega, fun h hh => by omega, fun h hh => by omega, fun h hh => by omega, fun h hh => by omega, fun h h1 h2 => rfl, fun i j hi hj _ => zi_b i hi j hj⟩, ⟨rfl, rfl, rfl, by decide +kernel, by decide +kernel, fun h hh => by omega, fun h hh => by omega, fun h h1 h2 => ⟨rfl, rfl, rfl, rfl, rfl, rfl⟩, Or.inl ⟨rfl, rfl, rfl⟩⟩, ⟨zi_c, by decide +kernel⟩, ⟨rfl, h0⟩, ⟨rfl, rfl, by omega, fun l hl => by omega, fun l hl => by omega⟩, zi_a⟩, ⟨rfl, rfl, by omega, rfl, by omega, fun j hj => by omega⟩, rfl, Or.inl rfl, fun h => absurd h (by decide +kernel)⟩
  show 0 ≤ (0 : Int32).toInt ∧ (0 : Int32).toInt ≤ 255
  decide
