/-- a leaven is added: the cells of the reference -/
theorem zM4 {S : zSt} {n : Nat} {v0 v1 v2 v3 : Int32} (hn : n < 60) : ∃ Y : zSt, zpI (zpI (zpI (zpI (zpI S 1 (340 + 4 * n) v0) 1 (341 + 4 * n) v1) 1 (342 + 4 * n) v2) 1 (343 + 4 * n) v3) 1 585 (nI (n + 1)) = Y ∧ Y.1 1 585 = nI (n + 1) ∧ Y.1 1 (340 + 4 * n) = v0 ∧ Y.1 1 (341 + 4 * n) = v1 ∧ Y.1 1 (342 + 4 * n) = v2 ∧ Y.1 1 (343 + 4 * n) = v3 ∧ (∀ k, k ≠ 585 → (k < 340 + 4 * n ∨ 344 + 4 * n ≤ k) → Y.1 1 k = S.1 1 k) ∧ (∀ q, q ≠ 1 → Y.1 q = S.1 q) := by
  refine ⟨_, rfl, zI_at, ?_, ?_, ?_, ?_, ?_, ?_⟩
  · simp (disch := omega) only [zI_nk, zI_at]
  · simp (disch := omega) only [zI_nk, zI_at]
  · simp (disch := omega) only [zI_nk, zI_at]
  · simp (disch := omega) only [zI_nk, zI_at]
  · intro k h1 h2
    simp (disch := omega) only [zI_nk]
  · intro q hq
    simp (disch := omega) only [zI_ne]
