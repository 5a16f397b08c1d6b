/-! one Commons is another's copy, place by place -/
def zLn : List Nat := [0, 7, 9, 9, 9, 45, 9, 9, 12, 9, 9, 9, 9, 9, 9, 9, 4, 3, 400, 7, 60, 60, 60, 60, 60, 60, 1, 64]
theorem rT_tr {x x' : Nat → Nat → Int32} {T T' : Nat} {a a' : Nat → Int32} {n : Nat} (hn : n ≤ 9) (h0 : ∀ k, k < 12 → (k < 3 ∨ 10 ≤ k) → x' T' k = x T k) (hx : ∀ d, 0 < d → d < 8 → ∀ k, k < 9 → x' (T' + d) k = x (T + d) k) (ha : ∀ k, k < 180 → a' k = a k) (H : rT x T a n) : rT x' T' a' n := by
  obtain ⟨h1, h2, h3, h4, h5, h6, h7, h8, h9⟩ := H
  refine ⟨?_, ?_, ?_, ?_, ?_, fun h hh => ?_, fun h hh => ?_, fun h g1 g2 => ?_, ?_⟩
  · rw [h0 _ (by omega) (by omega), ha _ (by omega)]; exact h1
  · rw [h0 _ (by omega) (by omega), ha _ (by omega)]; exact h2
  · rw [h0 _ (by omega) (by omega), ha _ (by omega)]; exact h3
  · rw [ha _ (by omega)]; exact h4
  · rw [ha _ (by omega)]; exact h5
  · rw [hx 1 (by omega) (by omega) h (by omega), hx 2 (by omega) (by omega) h (by omega), hx 3 (by omega) (by omega) h (by omega), hx 4 (by omega) (by omega) h (by omega), hx 5 (by omega) (by omega) h (by omega), hx 6 (by omega) (by omega) h (by omega), ha (23 + 16 * h) (by omega), ha (24 + 16 * h) (by omega), ha (25 + 16 * h) (by omega), ha (26 + 16 * h) (by omega), ha (27 + 16 * h) (by omega), ha (28 + 16 * h) (by omega)]
    exact h6 h hh
  · rw [ha (23 + 16 * h) (by omega)]
    exact h7 h hh
  · rw [hx 1 (by omega) (by omega) h (by omega), hx 2 (by omega) (by omega) h (by omega), hx 3 (by omega) (by omega) h (by omega), hx 4 (by omega) (by omega) h (by omega), hx 5 (by omega) (by omega) h (by omega), hx 6 (by omega) (by omega) h (by omega)]
    exact h8 h g1 g2
  · rw [h0 10 (by omega) (by omega), h0 11 (by omega) (by omega), ha 9 (by omega), ha 10 (by omega)]
    rcases h9 with h9 | ⟨c, hc, e1, e2, e3, e4⟩
    · exact Or.inl h9
    · exact Or.inr ⟨c, hc, e1, e2, e3, fun i hi => by rw [hx 7 (by omega) (by omega) i (by omega), ha (170 + i) (by omega)]; exact e4 i hi⟩
theorem rC_tr {RR : (Nat → Int32) → Int32 → Int32 → (Nat → Int32) → Prop} (hRR : zRok RR) {x x' : Nat → Nat → Int32} {y y' : Nat → Nat → Int64} {B B' : Nat} {a a' : Nat → Int32} {n m : Nat} (hx : ∀ d, 0 < d → d < 28 → d ≠ 24 → d ≠ 25 → ∀ k, k < zLn.getD d 0 → (d = 8 → k < 3 ∨ 10 ≤ k) → (d = 1 → k = 0) → (d = 17 → 1 ≤ k) → (d = 19 → k = 0) → d ≠ 26 → x' (B' + d) k = x (B + d) k) (hy : ∀ k, k < 60 → y' (B' + 24) k = y (B + 24) k) (ha : ∀ k, k < 1480 → a' k = a k) (H : rC RR x y B a n m) : rC RR x' y' B' a' n m := by
  obtain ⟨⟨h1, h2, h3, h5, h6, h7, h8, h9, h10⟩, hT, hS, hR, ⟨l1, l2, l3, l4, l5⟩, hI⟩ := H
  have X : ∀ d c, 0 < d → d < 28 → d ≠ 24 → d ≠ 25 → d ≠ 26 → d ≠ 1 → d ≠ 8 → d ≠ 17 → d ≠ 19 → zLn.getD d 0 = c → ∀ k, k < c → x' (B' + d) k = x (B + d) k := fun d c a1 a2 a3 a4 a5 a6 a7 a8 a9 e k hk => hx d a1 a2 a3 a4 k (by omega) (fun q => absurd q a7) (fun q => absurd q a6) (fun q => absurd q a8) (fun q => absurd q a9) a5
  have X1 : x' (B' + 1) 0 = x (B + 1) 0 := hx 1 (by omega) (by omega) (by omega) (by omega) 0 (by decide) (by omega) (by omega) (by omega) (by omega) (by omega)
  have X19 : x' (B' + 19) 0 = x (B + 19) 0 := hx 19 (by omega) (by omega) (by omega) (by omega) 0 (by decide) (by omega) (by omega) (by omega) (by omega) (by omega)
  have R1 : x' (B' + 17) 1 = x (B + 17) 1 := hx 17 (by omega) (by omega) (by omega) (by omega) 1 (by decide) (by omega) (by omega) (by omega) (by omega) (by omega)
  have R2 : x' (B' + 17) 2 = x (B + 17) 2 := hx 17 (by omega) (by omega) (by omega) (by omega) 2 (by decide) (by omega) (by omega) (by omega) (by omega) (by omega)
  have G : ∀ d c, 0 < d → d < 28 → d ≠ 24 ∧ d ≠ 25 ∧ d ≠ 26 ∧ d ≠ 1 ∧ d ≠ 8 ∧ d ≠ 17 ∧ d ≠ 19 → zLn.getD d 0 = c → ∀ k, k < c → x' (B' + d) k = x (B + d) k := fun d c a1 a2 a3 e => X d c a1 a2 a3.1 a3.2.1 a3.2.2.1 a3.2.2.2.1 a3.2.2.2.2.1 a3.2.2.2.2.2.1 a3.2.2.2.2.2.2 e
  refine ⟨⟨by rw [X1]; exact h1, by rw [ha _ (by omega)]; exact h2, h3, fun h hh => ?_, fun h hh k hk => ?_, fun h hh => ?_, fun h hh => ?_, fun h g1 g2 => ?_, fun i j hi hj hij => ?_⟩, ?_, ?_, ?_, ⟨by rw [X19]; exact l1, by rw [ha _ (by omega)]; exact l2, l3, fun l hl => ?_, fun l hl => ?_⟩, fun k hk => ?_⟩
  · rw [G 2 9 (by omega) (by omega) (by omega) rfl h (by omega), G 3 9 (by omega) (by omega) (by omega) rfl h (by omega), G 4 9 (by omega) (by omega) (by omega) rfl h (by omega), G 6 9 (by omega) (by omega) (by omega) rfl h (by omega), ha _ (by omega), ha _ (by omega), ha _ (by omega), ha _ (by omega)]
    exact h5 h hh
  · rw [ha _ (by omega)] at hk
    have hk5 : k < 5 := by have := (h7 h hh).2.2.2.2.2.2.2; omega
    rw [G 5 45 (by omega) (by omega) (by omega) rfl _ (by omega), ha _ (by omega)]
    exact h6 h hh k hk
  · rw [ha _ (by omega), ha _ (by omega), ha _ (by omega), ha _ (by omega)]
    exact h7 h hh
  · rw [G 7 9 (by omega) (by omega) (by omega) rfl h (by omega), zNet_c (by omega) (fun k _ hk => ha k (by omega)) n h3]
    exact h8 h hh
  · rw [G 7 9 (by omega) (by omega) (by omega) rfl h (by omega)]
    exact h9 h g1 g2
  · rw [ha _ (by omega)]
    exact h10 i j hi hj hij
  · refine rT_tr h3 (fun k hk hk2 => hx 8 (by omega) (by omega) (by omega) (by omega) k hk (fun _ => hk2) (by omega) (by omega) (by omega) (by omega)) (fun d d1 d2 k hk => ?_) (fun k hk => ha k (by omega)) hT
    rw [show B' + 8 + d = B' + (8 + d) by omega, show B + 8 + d = B + (8 + d) by omega]
    rcases (show d = 1 ∨ d = 2 ∨ d = 3 ∨ d = 4 ∨ d = 5 ∨ d = 6 ∨ d = 7 by omega) with rfl | rfl | rfl | rfl | rfl | rfl | rfl
    all_goals exact G _ 9 (by omega) (by omega) (by omega) rfl k hk
  · obtain ⟨s1, s2⟩ := hS
    refine ⟨fun k hk => by rw [G 16 4 (by omega) (by omega) (by omega) rfl k hk, ha _ (by omega)]; exact s1 k hk, ?_⟩
    rw [ha 0 (by omega), ha 1 (by omega), ha 2 (by omega), ha 3 (by omega)]
    exact s2
  · rw [R1, R2, ha 590 (by omega)]
    exact ⟨hR.1, hRR _ _ _ _ _ _ (fun i hi => G 18 400 (by omega) (by omega) (by omega) rfl i hi) (fun i _ hi => ha i hi) hR.2⟩
  · rw [G 20 60 (by omega) (by omega) (by omega) rfl l (by omega), G 21 60 (by omega) (by omega) (by omega) rfl l (by omega), G 22 60 (by omega) (by omega) (by omega) rfl l (by omega), G 23 60 (by omega) (by omega) (by omega) rfl l (by omega), ha _ (by omega), ha _ (by omega), ha _ (by omega), ha _ (by omega)]
    exact l4 l hl
  · rw [hy l (by omega), ha (340 + 4 * l) (by omega), ha (341 + 4 * l) (by omega), ha (342 + 4 * l) (by omega), ha (343 + 4 * l) (by omega)]
    rcases l5 l hl with q | ⟨q, i, j, u, v, q1, q2, q3, q4, q5, q6, q7, q8, q9⟩
    · exact Or.inl q
    · exact Or.inr ⟨q, i, j, u, v, q1, q2, q3, q4, by rw [ha _ (by omega)]; exact q5, by rw [ha _ (by omega)]; exact q6, q7, q8, by rw [hy i (by omega), hy j (by omega)]; exact q9⟩
  · rw [G 27 64 (by omega) (by omega) (by omega) rfl k hk, ha _ (by omega)]
    exact hI k hk
