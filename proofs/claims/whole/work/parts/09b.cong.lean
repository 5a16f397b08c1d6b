/-! what does not touch a part leaves it matched -/
theorem zI_ne {S : zSt} {q k : Nat} {v : Int32} {q' : Nat} (h : q' ≠ q) : (zpI S q k v).1 q' = S.1 q' := by unfold zpI; simp [h]
theorem zI_eq {S : zSt} {q k : Nat} {v : Int32} : (zpI S q k v).1 q = upd (S.1 q) k v := by unfold zpI; simp
theorem zI_at {S : zSt} {q k : Nat} {v : Int32} : (zpI S q k v).1 q k = v := by rw [zI_eq]; simp [upd]
theorem zI_nk {S : zSt} {q k k' : Nat} {v : Int32} (h : k' ≠ k) : (zpI S q k v).1 q k' = S.1 q k' := by rw [zI_eq]; simp [upd, h]
theorem zL_ne {S : zSt} {q k : Nat} {v : Int64} {q' : Nat} (h : q' ≠ q) : (zpL S q k v).2 q' = S.2 q' := by unfold zpL; simp [h]
theorem zL_eq {S : zSt} {q k : Nat} {v : Int64} : (zpL S q k v).2 q = vp_updL (S.2 q) k v := by unfold zpL; simp
theorem zcI_ne {S : zSt} {q : Nat} {f : Nat → Int32} {q' : Nat} (h : q' ≠ q) : (zcI S q f).1 q' = S.1 q' := by unfold zcI; simp [h]
theorem zcI_eq {S : zSt} {q : Nat} {f : Nat → Int32} : (zcI S q f).1 q = f := by unfold zcI; simp
theorem zcL_ne {S : zSt} {q : Nat} {f : Nat → Int64} {q' : Nat} (h : q' ≠ q) : (zcL S q f).2 q' = S.2 q' := by unfold zcL; simp [h]
theorem zcL_eq {S : zSt} {q : Nat} {f : Nat → Int64} : (zcL S q f).2 q = f := by unfold zcL; simp
theorem zNet_c {a a' : Nat → Int32} {h : Nat} (hh : h < 9) (hd : ∀ k, 180 ≤ k → k < 261 → a' k = a k) : ∀ n, n ≤ 9 → zNet a' h n = zNet a h n := by
  intro n
  induction n with
  | zero => intro _; rfl
  | succ o ih =>
    intro ho
    unfold zNet
    rw [ih (by omega), hd _ (by omega) (by omega), hd _ (by omega) (by omega)]
theorem rH_c {x x' : Nat → Nat → Int32} {B : Nat} {a a' : Nat → Int32} {n : Nat} (hx : ∀ q, B < q → q < B + 8 → x' q = x q) (h4 : a' 4 = a 4) (hs : ∀ h, h < n → ∀ k, (k < 3 ∨ 9 ≤ k) → k < 15 → a' (20 + 16 * h + k) = a (20 + 16 * h + k)) (hd : ∀ k, 180 ≤ k → k < 261 → a' k = a k) (H : rH x B a n) : rH x' B a' n := by
  obtain ⟨h1, h2, h3, h5, h6, h7, h8, h9, h10⟩ := H
  have s0 : ∀ h, h < n → a' (20 + 16 * h) = a (20 + 16 * h) := fun h hh => hs h hh 0 (by omega) (by omega)
  have s1 : ∀ h, h < n → a' (21 + 16 * h) = a (21 + 16 * h) := fun h hh => by
    have := hs h hh 1 (by omega) (by omega)
    rwa [show 20 + 16 * h + 1 = 21 + 16 * h by omega] at this
  have s2 : ∀ h, h < n → a' (22 + 16 * h) = a (22 + 16 * h) := fun h hh => by
    have := hs h hh 2 (by omega) (by omega)
    rwa [show 20 + 16 * h + 2 = 22 + 16 * h by omega] at this
  have s9 : ∀ h, h < n → a' (29 + 16 * h) = a (29 + 16 * h) := fun h hh => by
    have := hs h hh 9 (by omega) (by omega)
    rwa [show 20 + 16 * h + 9 = 29 + 16 * h by omega] at this
  refine ⟨by rw [hx _ (by omega) (by omega)]; exact h1, by rw [h4]; exact h2, h3, fun h hh => ?_, fun h hh k hk => ?_, fun h hh => ?_, fun h hh => ?_, fun h ha hb => ?_, fun i j hi hj hij => ?_⟩
  · rw [hx _ (by omega) (by omega), hx _ (by omega) (by omega), hx _ (by omega) (by omega), hx _ (by omega) (by omega), s0 h hh, s1 h hh, s2 h hh, s9 h hh]
    exact h5 h hh
  · rw [s9 h hh] at hk
    have hk5 : k < 5 := by have := (h7 h hh).2.2.2.2.2.2.2; omega
    have := hs h hh (10 + k) (by omega) (by omega)
    rw [show 20 + 16 * h + (10 + k) = 30 + 16 * h + k by omega] at this
    rw [hx _ (by omega) (by omega), this]
    exact h6 h hh k hk
  · rw [s0 h hh, s1 h hh, s2 h hh, s9 h hh]
    exact h7 h hh
  · rw [hx _ (by omega) (by omega), zNet_c (by omega) hd n h3]
    exact h8 h hh
  · rw [hx _ (by omega) (by omega)]
    exact h9 h ha hb
  · rw [hd _ (by omega) (by omega)]
    exact h10 i j hi hj hij
theorem rT_c {x x' : Nat → Nat → Int32} {T : Nat} {a a' : Nat → Int32} {n : Nat} (hx : ∀ q, T ≤ q → q < T + 8 → x' q = x q) (h0 : ∀ k, (k = 5 ∨ k = 6 ∨ k = 8 ∨ k = 9 ∨ k = 10 ∨ (170 ≤ k ∧ k < 179)) → a' k = a k) (hs : ∀ h, h < n → ∀ k, 3 ≤ k → k < 9 → a' (20 + 16 * h + k) = a (20 + 16 * h + k)) (H : rT x T a n) : rT x' T a' n := by
  obtain ⟨h1, h2, h3, h4, h5, h6, h7, h8, h9⟩ := H
  have s : ∀ h, h < n → ∀ k j, 3 ≤ k → k < 9 → j = 20 + k → a' (j + 16 * h) = a (j + 16 * h) := fun h hh k j hk hk2 e => by
    have := hs h hh k hk hk2
    subst e
    rwa [show 20 + 16 * h + k = 20 + k + 16 * h by omega] at this
  refine ⟨?_, ?_, ?_, ?_, ?_, fun h hh => ?_, fun h hh => ?_, fun h ha hb => ?_, ?_⟩
  · rw [hx _ (by omega) (by omega), h0 6 (by omega)]; exact h1
  · rw [hx _ (by omega) (by omega), h0 5 (by omega)]; exact h2
  · rw [hx _ (by omega) (by omega), h0 8 (by omega)]; exact h3
  · rw [h0 5 (by omega)]; exact h4
  · rw [h0 5 (by omega)]; exact h5
  · rw [hx _ (by omega) (by omega), hx _ (by omega) (by omega), hx _ (by omega) (by omega), hx _ (by omega) (by omega), hx _ (by omega) (by omega), hx _ (by omega) (by omega), s h hh 3 23 (by omega) (by omega) rfl, s h hh 4 24 (by omega) (by omega) rfl, s h hh 5 25 (by omega) (by omega) rfl, s h hh 6 26 (by omega) (by omega) rfl, s h hh 7 27 (by omega) (by omega) rfl, s h hh 8 28 (by omega) (by omega) rfl]
    exact h6 h hh
  · rw [s h hh 3 23 (by omega) (by omega) rfl]
    exact h7 h hh
  · rw [hx _ (by omega) (by omega), hx _ (by omega) (by omega), hx _ (by omega) (by omega), hx _ (by omega) (by omega), hx _ (by omega) (by omega), hx _ (by omega) (by omega)]
    exact h8 h ha hb
  · rw [hx T (by omega) (by omega), hx (T + 7) (by omega) (by omega), h0 9 (by omega), h0 10 (by omega)]
    rcases h9 with h9 | ⟨c, hc, e1, e2, e3, e4⟩
    · exact Or.inl h9
    · exact Or.inr ⟨c, hc, e1, e2, e3, fun i hi => by rw [h0 (170 + i) (by omega)]; exact e4 i hi⟩
/-- the state alone is new -/
theorem rT_st {x x' : Nat → Nat → Int32} {T : Nat} {a a' : Nat → Int32} {n : Nat} (hx : ∀ q, T < q → q < T + 8 → x' q = x q) (ht : ∀ k, k ≠ 0 → x' T k = x T k) (e : x' T 0 = a' 6) (h0 : ∀ k, (k = 5 ∨ k = 8 ∨ k = 9 ∨ k = 10 ∨ (170 ≤ k ∧ k < 179)) → a' k = a k) (hs : ∀ h, h < n → ∀ k, 3 ≤ k → k < 9 → a' (20 + 16 * h + k) = a (20 + 16 * h + k)) (H : rT x T a n) : rT x' T a' n := by
  obtain ⟨h1, h2, h3, h4, h5, h6, h7, h8, h9⟩ := H
  have s : ∀ h, h < n → ∀ k j, 3 ≤ k → k < 9 → j = 20 + k → a' (j + 16 * h) = a (j + 16 * h) := fun h hh k j hk hk2 e => by
    have := hs h hh k hk hk2
    subst e
    rwa [show 20 + 16 * h + k = 20 + k + 16 * h by omega] at this
  refine ⟨?_, ?_, ?_, ?_, ?_, fun h hh => ?_, fun h hh => ?_, fun h ha hb => ?_, ?_⟩
  · exact e
  · rw [ht _ (by omega), h0 5 (by omega)]; exact h2
  · rw [ht _ (by omega), h0 8 (by omega)]; exact h3
  · rw [h0 5 (by omega)]; exact h4
  · rw [h0 5 (by omega)]; exact h5
  · rw [hx _ (by omega) (by omega), hx _ (by omega) (by omega), hx _ (by omega) (by omega), hx _ (by omega) (by omega), hx _ (by omega) (by omega), hx _ (by omega) (by omega), s h hh 3 23 (by omega) (by omega) rfl, s h hh 4 24 (by omega) (by omega) rfl, s h hh 5 25 (by omega) (by omega) rfl, s h hh 6 26 (by omega) (by omega) rfl, s h hh 7 27 (by omega) (by omega) rfl, s h hh 8 28 (by omega) (by omega) rfl]
    exact h6 h hh
  · rw [s h hh 3 23 (by omega) (by omega) rfl]
    exact h7 h hh
  · rw [hx _ (by omega) (by omega), hx _ (by omega) (by omega), hx _ (by omega) (by omega), hx _ (by omega) (by omega), hx _ (by omega) (by omega), hx _ (by omega) (by omega)]
    exact h8 h ha hb
  · rw [ht 10 (by omega), ht 11 (by omega), hx (T + 7) (by omega) (by omega), h0 9 (by omega), h0 10 (by omega)]
    rcases h9 with h9 | ⟨c, hc, e1, e2, e3, e4⟩
    · exact Or.inl h9
    · exact Or.inr ⟨c, hc, e1, e2, e3, fun i hi => by rw [h0 (170 + i) (by omega)]; exact e4 i hi⟩
theorem rS_c {x x' : Nat → Nat → Int32} {B : Nat} {a a' : Nat → Int32} (hx : x' (B + 16) = x (B + 16)) (h : ∀ k, k < 4 → a' k = a k) (H : rS x B a) : rS x' B a' := by
  obtain ⟨h1, h2⟩ := H
  refine ⟨fun k hk => by rw [hx, h k hk]; exact h1 k hk, ?_⟩
  rw [h 0 (by omega), h 1 (by omega), h 2 (by omega), h 3 (by omega)]
  exact h2
theorem rL_c {x x' : Nat → Nat → Int32} {y y' : Nat → Nat → Int64} {B : Nat} {a a' : Nat → Int32} {m n n' : Nat} (hx : ∀ q, B + 19 ≤ q → q < B + 24 → x' q = x q) (hy : y' (B + 24) = y (B + 24)) (h : ∀ k, 340 ≤ k → k < 586 → a' k = a k) (H : rL x y B a m n) : rL x' y' B a' m n' := by
  obtain ⟨h1, h2, h3, h4, h5⟩ := H
  refine ⟨by rw [hx _ (by omega) (by omega)]; exact h1, by rw [h _ (by omega) (by omega)]; exact h2, h3, fun l hl => ?_, fun l hl => ?_⟩
  · rw [hx _ (by omega) (by omega), hx _ (by omega) (by omega), hx _ (by omega) (by omega), hx _ (by omega) (by omega), h _ (by omega) (by omega), h _ (by omega) (by omega), h _ (by omega) (by omega), h _ (by omega) (by omega)]
    exact h4 l hl
  · rw [hy, h (340 + 4 * l) (by omega) (by omega), h (341 + 4 * l) (by omega) (by omega), h (342 + 4 * l) (by omega) (by omega), h (343 + 4 * l) (by omega) (by omega)]
    rcases h5 l hl with q | ⟨q, i, j, u, v, q1, q2, q3, q4, q5, q6, q7⟩
    · exact Or.inl q
    · exact Or.inr ⟨q, i, j, u, v, q1, q2, q3, q4, by rw [h _ (by omega) (by omega)]; exact q5, by rw [h _ (by omega) (by omega)]; exact q6, q7⟩
theorem rI_c {x x' : Nat → Nat → Int32} {B : Nat} {a a' : Nat → Int32} (hx : x' (B + 27) = x (B + 27)) (h : ∀ k, 270 ≤ k → k < 334 → a' k = a k) (H : rI x B a) : rI x' B a' := fun k hk => by
  rw [hx, h _ (by omega) (by omega)]
  exact H k hk
theorem rR_c {RR : (Nat → Int32) → Int32 → Int32 → (Nat → Int32) → Prop} (hRR : zRok RR) {x x' : Nat → Nat → Int32} {B : Nat} {a a' : Nat → Int32} (h1 : x' (B + 17) = x (B + 17)) (h2 : x' (B + 18) = x (B + 18)) (h : ∀ k, 590 ≤ k → k < 1480 → a' k = a k) (H : x (B + 17) 2 = a 590 ∧ RR (x (B + 18)) (x (B + 17) 1) (x (B + 17) 2) a) : x' (B + 17) 2 = a' 590 ∧ RR (x' (B + 18)) (x' (B + 17) 1) (x' (B + 17) 2) a' := by
  rw [h1, h2, h 590 (by omega) (by omega)]
  exact ⟨H.1, hRR _ _ _ _ _ _ (fun _ _ => rfl) h H.2⟩
/-- nothing of Commons is touched -/
theorem rC_same {RR : (Nat → Int32) → Int32 → Int32 → (Nat → Int32) → Prop} (hRR : zRok RR) {x x' : Nat → Nat → Int32} {y y' : Nat → Nat → Int64} {B : Nat} {a a' : Nat → Int32} {n m : Nat} (hx : ∀ q, B < q → q < B + 28 → x' q = x q) (hy : y' (B + 24) = y (B + 24)) (ha : ∀ k, k < 1480 → a' k = a k) (H : rC RR x y B a n m) : rC RR x' y' B a' n m := by
  obtain ⟨h1, h2, h3, h4, h5, h6⟩ := H
  have h9 : n ≤ 9 := h1.2.2.1
  exact ⟨rH_c (fun q a b => hx q (by omega) (by omega)) (ha _ (by omega)) (fun h hh k _ hk => ha _ (by omega)) (fun k _ hk => ha k (by omega)) h1, rT_c (fun q a b => hx q (by omega) (by omega)) (fun k hk => ha k (by omega)) (fun h hh k _ hk => ha _ (by omega)) h2, rS_c (hx _ (by omega) (by omega)) (fun k hk => ha k (by omega)) h3, rR_c hRR (hx _ (by omega) (by omega)) (hx _ (by omega) (by omega)) (fun k _ hk => ha k hk) h4, rL_c (fun q a b => hx q (by omega) (by omega)) hy (fun k _ hk => ha k (by omega)) h5, rI_c (hx _ (by omega) (by omega)) (fun k _ hk => ha k (by omega)) h6⟩
theorem zStat_c {a a' b b' : Nat → Int32} {n : Nat} (hn : n ≤ 9) (ha : ∀ k, k < 5 → a' k = a k) (hs : ∀ h, h < n → ∀ k, (k < 3 ∨ 9 ≤ k) → k < 15 → a' (20 + 16 * h + k) = a (20 + 16 * h + k)) (hb : ∀ k, k < 180 → b' k = b k) (H : zStat a b n) : zStat a' b' n := by
  obtain ⟨h1, h2⟩ := H
  refine ⟨fun k hk => by rw [hb _ (by omega), ha k hk]; exact h1 k hk, fun h hh => ?_⟩
  obtain ⟨e1, e2, e3, e4⟩ := h2 h hh
  refine ⟨?_, ?_, ?_, fun k hk => ?_⟩
  · rw [hb _ (by omega), e1]; exact (hs h hh 0 (by omega) (by omega)).symm
  · rw [hb _ (by omega), e2]
    have := hs h hh 1 (by omega) (by omega)
    rw [show 20 + 16 * h + 1 = 21 + 16 * h by omega] at this
    exact this.symm
  · rw [hb _ (by omega), e3]
    have := hs h hh 2 (by omega) (by omega)
    rw [show 20 + 16 * h + 2 = 22 + 16 * h by omega] at this
    exact this.symm
  · rw [hb _ (by omega), e4 k hk]
    have := hs h hh (9 + k) (by omega) (by omega)
    rw [show 20 + 16 * h + (9 + k) = 29 + 16 * h + k by omega] at this
    exact this.symm
theorem rU_c {x x' M M' : Nat → Nat → Int32} {n c o : Nat} (hn : n ≤ 9) (h59 : x' 59 = x 59) (hx : ∀ q, 61 ≤ q → q < 125 → x' q = x q) (h03 : M' 0 3 = M 0 3) (h3 : M' 3 = M 3) (ha : ∀ k, k < 5 → M' 1 k = M 1 k) (hs : ∀ h, h < n → ∀ k, (k < 3 ∨ 9 ≤ k) → k < 15 → M' 1 (20 + 16 * h + k) = M 1 (20 + 16 * h + k)) (H : rU x M n c o) : rU x' M' n c o := by
  obtain ⟨h1, h2, h4, h5, h6, h7⟩ := H
  refine ⟨by rw [h59]; exact h1, by rw [h03]; exact h2, h4, by rw [h59]; exact h5, h6, fun j hj => ?_⟩
  obtain ⟨q1, q2⟩ := h7 j hj
  rw [h3]
  exact ⟨rT_c (fun q a b => hx q (by omega) (by omega)) (fun _ _ => rfl) (fun _ _ _ _ _ => rfl) q1, zStat_c hn ha hs (fun _ _ => rfl) q2⟩
/-- no day can be undone -/
theorem rU_0 {x M : Nat → Nat → Int32} {n o : Nat} (h1 : x 59 2 = 0) (h2 : M 0 3 = 0) (h3 : x 59 1 = nI o) (h4 : o < 8) : rU x M n 0 o := ⟨by rw [h1]; rfl, by rw [h2]; rfl, by omega, h3, h4, fun j hj => by omega⟩
theorem rTape_c {x x' M M' : Nat → Nat → Int32} {t : Nat} (h1 : x' 1 = x 1) (h2 : x' 2 = x 2) (h3 : M' 0 12 = M 0 12) (h4 : M' 6 = M 6) (H : rTape x M t) : rTape x' M' t := by
  obtain ⟨q1, q2, q3, q4, q5⟩ := H
  exact ⟨by rw [h1]; exact q1, by rw [h3]; exact q2, q3, fun k => by rw [h2, h4]; exact q4 k, fun k => by rw [h4]; exact q5 k⟩
