theorem rL_add {x x' : Nat → Nat → Int32} {y y' : Nat → Nat → Int64} {B : Nat} {a a' : Nat → Int32} {m n : Nat} {v0 v1 v2 v3 : Int32} {w : Int64} (hm : m < 60) (e0 : x' (B + 19) 0 = nI (m + 1)) (e1 : x' (B + 20) = upd (x (B + 20)) m v3) (e2 : x' (B + 21) = upd (x (B + 21)) m v2) (e3 : x' (B + 22) = upd (x (B + 22)) m v0) (e4 : x' (B + 23) = upd (x (B + 23)) m v1) (e5 : y' (B + 24) = vp_updL (y (B + 24)) m w)
    (b0 : a' 585 = nI (m + 1)) (b1 : a' (340 + 4 * m) = v0) (b2 : a' (341 + 4 * m) = v1) (b3 : a' (342 + 4 * m) = v2) (b4 : a' (343 + 4 * m) = v3) (bo : ∀ k, 340 ≤ k → k < 340 + 4 * m → a' k = a k)
    (hnew : (v0 = -1 ∧ v1 = -1 ∧ v3 = 0 ∧ (∃ h : Nat, h < 9 ∧ v2 = nI h) ∧ w = 1 <<< ((nI m).toInt64 &&& 63)) ∨ (v2 = -1 ∧ ∃ i j u v : Nat, i < m ∧ j < m ∧ v0 = nI i ∧ v1 = nI j ∧ a (343 + 4 * i) = nI u ∧ a (343 + 4 * j) = nI v ∧ v3 = nI (1 + max u v) ∧ 1 + max u v ≤ 30 ∧ w = (y (B + 24) i ||| y (B + 24) j) ||| 1 <<< ((nI m).toInt64 &&& 63))) (H : rL x y B a m n) : rL x' y' B a' (m + 1) n := by
  obtain ⟨h1, h2, h3, h4, h5⟩ := H
  have yo : ∀ k, k ≠ m → y' (B + 24) k = y (B + 24) k := fun k hk => by rw [e5]; simp only [vp_updL, if_neg hk]
  have ym : y' (B + 24) m = w := by rw [e5]; simp only [vp_updL, if_true]
  refine ⟨e0, b0, by omega, fun l hl => ?_, fun l hl => ?_⟩
  · rw [e1, e2, e3, e4]
    by_cases e : l = m
    · subst e
      rw [b1, b2, b3, b4]
      simp only [upd, if_true, and_self]
    · rw [bo (340 + 4 * l) (by omega) (by omega), bo (341 + 4 * l) (by omega) (by omega), bo (342 + 4 * l) (by omega) (by omega), bo (343 + 4 * l) (by omega) (by omega)]
      simp only [upd, if_neg e]
      exact h4 l (by omega)
  · by_cases e : l = m
    · subst e
      rw [b1, b2, b3, b4, ym]
      rcases hnew with q | ⟨q, i, j, u, v, q1, q2, q3, q4, q5, q6, q7, q8, q9⟩
      · exact Or.inl q
      · exact Or.inr ⟨q, i, j, u, v, q1, q2, q3, q4, by rw [bo _ (by omega) (by omega)]; exact q5, by rw [bo _ (by omega) (by omega)]; exact q6, q7, q8, by rw [yo i (by omega), yo j (by omega)]; exact q9⟩
    · rw [bo (340 + 4 * l) (by omega) (by omega), bo (341 + 4 * l) (by omega) (by omega), bo (342 + 4 * l) (by omega) (by omega), bo (343 + 4 * l) (by omega) (by omega), yo l e]
      rcases h5 l (by omega) with q | ⟨q, i, j, u, v, q1, q2, q3, q4, q5, q6, q7, q8, q9⟩
      · exact Or.inl q
      · exact Or.inr ⟨q, i, j, u, v, q1, q2, q3, q4, by rw [bo _ (by omega) (by omega)]; exact q5, by rw [bo _ (by omega) (by omega)]; exact q6, q7, q8, by rw [yo i (by omega), yo j (by omega)]; exact q9⟩
