/-! conditions of any depth; a line -/
theorem zall_n (v : Int32) : ∃ n : Nat, v = nI n := ⟨v.toBitVec.toNat, by
  unfold nI
  apply Int32.toBitVec_inj.mp
  rw [Int32.toBitVec_ofNat']
  simp⟩
section ztany
variable {t : Nat} {c v p r : Nat → Nat} {X0 M0 : zSt}
theorem zt_any (E : ztE t c v p r X0 M0) {rec : zSt → Option (Int32 × zSt)} {dp : Nat} (d8 : dp ≤ 8) (hrec : ztQ t c v p r X0 M0 rec 3 4 (20 - 2 * dp) (11 - dp) (3 * dp + 2) dp (fun _ => True)) : ztQ t c v p r X0 M0 (fm_any rec) 1 1 (22 - 2 * dp) (13 - dp) (3 * dp) dp (fun x => (True ∧ x ≠ 259) ∧ x ≠ 258) := by
  have bit : ∀ x y : Int32, (x = 0 ∨ x = 1) → (y = 0 ∨ y = 1) → (x &&& y = 0 ∨ x &&& y = 1) ∧ (x ||| y = 0 ∨ x ||| y = 1) := by
    intro x y hx hy
    rcases hx with rfl | rfl <;> rcases hy with rfl | rfl <;> decide
  have ev : ztQ t c v p r X0 M0 (fm_every rec) 2 2 (20 - 2 * dp + 1) (11 - dp + 1) (3 * dp + 1) dp (fun x => True ∧ x ≠ 259) := zt_cs (L := fm_every_L9 rec) (s := 21) (g := fun x y => x &&& y) (o := 259) E hrec (by omega) (by decide) (fun f T => by rw [fm_every_L9]; rfl) (fun S x y => fx_ap_and) (by decide) (fun S x y => fm_bo_and) (fun x y hx hy => (bit x y hx hy).1) (by omega) (by omega)
  have an : ztQ t c v p r X0 M0 (fm_any rec) 1 1 (20 - 2 * dp + 1 + 1) (11 - dp + 1 + 1) (3 * dp) dp (fun x => (True ∧ x ≠ 259) ∧ x ≠ 258) := zt_cs (L := fm_any_L9 rec) (s := 22) (g := fun x y => x ||| y) (o := 258) E ev (by omega) (by decide) (fun f T => by rw [fm_any_L9]; rfl) (fun S x y => fx_ap_or) (by decide) (fun S x y => fm_bo_or) (fun x y hx hy => (bit x y hx hy).2) (by omega) (by omega)
  rw [show 22 - 2 * dp = 20 - 2 * dp + 1 + 1 by omega, show 13 - dp = 11 - dp + 1 + 1 by omega]
  exact an
theorem zt_tests (E : ztE t c v p r X0 M0) : ∀ (d dp : Nat), dp ≤ 8 → 8 - dp < d → ztQ t c v p r X0 M0 (fm_oneTest_c d) 3 4 (20 - 2 * dp) (11 - dp) (3 * dp + 2) dp (fun _ => True) := by
  intro d
  induction d with
  | zero => intro dp _ h; omega
  | succ d ih =>
    intro dp h8 hd
    have e : fm_oneTest_c (d + 1) = fm_oneTest (fm_oneTest_c d) := rfl
    rw [e]
    exact zt_one E h8 (fun h => ih (dp + 1) (by omega) (by omega)) (fun h => zt_any E (by omega) (ih (dp + 1) (by omega) (by omega)))
theorem zt_anyc (E : ztE t c v p r X0 M0) : ztQ t c v p r X0 M0 fm_any_c 1 1 22 13 0 0 (fun x => (True ∧ x ≠ 259) ∧ x ≠ 258) := zt_any (dp := 0) E (by omega) (zt_tests E 16 0 (by omega) (by omega))
end ztany
/-- the lines so far -/
def ztHd (x a4 a5 : Nat → Int32) (ln n m : Nat) : Prop := ∀ (c' a' : Nat → Int32) (len K : Nat), (∀ i, i < n → c' i = x i) → (∀ i, i < ln → a' (600 + i) = a4 (3 * i) ∧ a' (620 + i) = a4 (3 * i + 1) ∧ a' (640 + i) = a4 (3 * i + 2)) → (∀ k, k < 2 * m → a' (660 + k) = a5 k) → zRln c' a' len K ln n → zRln c' a' len (K + ln) 0 0
theorem ztHd_0 {x a4 a5 : Nat → Int32} : ztHd x a4 a5 0 0 0 := fun _ _ _ _ _ _ _ h => h
/-- and one that ends so, or so -/
theorem ztHd_1 {x y : Nat → Int32} {T T' : zSt} {ln n m n1 m1 : Nat} {V : (Nat → Int32) → Int32} (H : ztHd x (T.1 4) (T.1 5) ln n m) (hx : ∀ k, k < n → y k = x k) (h4 : ∀ k, k < 3 * ln → T'.1 4 k = T.1 4 k) (h5 : ∀ k, k < 2 * m → T'.1 5 k = T.1 5 k) (l0 : T'.1 4 (3 * ln) = nI m) (l1 : T'.1 4 (3 * ln + 1) = nI m1) (l2 : T'.1 4 (3 * ln + 2) = nI m1) (hM : zMe (ztA T') m m1 3 V) (hX : zXe y n n1 3 V) (n4 : n1 < 400) (hy : y n1 = -59) : ztHd y (T'.1 4) (T'.1 5) (ln + 1) (n1 + 1) m1 := by
  intro c' a' len K k1 k2 k3 k4
  have lx := hX.1
  have lm := hM.1
  obtain ⟨w0, w1, w2⟩ := k2 ln (by omega)
  rw [show K + (ln + 1) = (K + 1) + ln by omega]
  refine H c' a' len (K + 1) (fun i hi => by rw [k1 i (by omega), hx i hi]) (fun i hi => ?_) (fun k hk => by rw [k3 k (by omega), h5 k hk]) (Or.inl ⟨m, m1, n1, 3, V, w0.trans l0, w1.trans l1, w2.trans l2, zMe_c (fun i a b => ?_) hM, zXe_c (fun i a b => k1 i (by omega)) hX, by omega, n4, by rw [k1 n1 (by omega)]; exact hy, k4⟩)
  · obtain ⟨v0, v1, v2⟩ := k2 i (by omega)
    exact ⟨by rw [v0, h4 _ (by omega)], by rw [v1, h4 _ (by omega)], by rw [v2, h4 _ (by omega)]⟩
  · rw [show i = 660 + (i - 660) by omega, k3 (i - 660) (by omega)]
    unfold ztA
    rw [show 660 + (i - 660) - 660 = i - 660 by omega]
theorem ztHd_2 {x y : Nat → Int32} {T T' : zSt} {ln n m n1 m1 n2 m2 : Nat} {V C : (Nat → Int32) → Int32} (H : ztHd x (T.1 4) (T.1 5) ln n m) (hx : ∀ k, k < n → y k = x k) (h4 : ∀ k, k < 3 * ln → T'.1 4 k = T.1 4 k) (h5 : ∀ k, k < 2 * m → T'.1 5 k = T.1 5 k) (l0 : T'.1 4 (3 * ln) = nI m) (l1 : T'.1 4 (3 * ln + 1) = nI m1) (l2 : T'.1 4 (3 * ln + 2) = nI m2) (hM : zMe (ztA T') m m1 3 V) (hX : zXe y n n1 3 V) (hM2 : zMe (ztA T') m1 m2 22 C) (hX2 : zXe y n1 n2 22 C) (h01 : ∀ F, C F = 0 ∨ C F = 1) (n4 : n2 < 400) (hy : y n2 = -257) : ztHd y (T'.1 4) (T'.1 5) (ln + 1) (n2 + 1) m2 := by
  intro c' a' len K k1 k2 k3 k4
  have lx := hX.1
  have lm := hM.1
  have lx2 := hX2.1
  have lm2 := hM2.1
  obtain ⟨w0, w1, w2⟩ := k2 ln (by omega)
  have aa : ∀ i, 660 ≤ i → i < 660 + 2 * m2 → a' i = ztA T' i := fun i a b => by
    rw [show i = 660 + (i - 660) by omega, k3 (i - 660) (by omega)]
    unfold ztA
    rw [show 660 + (i - 660) - 660 = i - 660 by omega]
  rw [show K + (ln + 1) = (K + 1) + ln by omega]
  refine H c' a' len (K + 1) (fun i hi => by rw [k1 i (by omega), hx i hi]) (fun i hi => ?_) (fun k hk => by rw [k3 k (by omega), h5 k hk]) (Or.inr ⟨m, m1, m2, n1, n2, 3, 22, V, C, w0.trans l0, w1.trans l1, w2.trans l2, zMe_c (fun i a b => aa i (by omega) (by omega)) hM, zMe_c (fun i a b => aa i (by omega) (by omega)) hM2, h01, zXe_c (fun i a b => k1 i (by omega)) hX, zXe_c (fun i a b => k1 i (by omega)) hX2, by omega, by omega, n4, by rw [k1 n2 (by omega)]; exact hy, k4⟩)
  obtain ⟨v0, v1, v2⟩ := k2 i (by omega)
  exact ⟨by rw [v0, h4 _ (by omega)], by rw [v1, h4 _ (by omega)], by rw [v2, h4 _ (by omega)]⟩
section ztend
variable {X0 S7 : zSt} {n : Nat} {P : List Nat} {e ao br lx x : Nat}
theorem fx_ends (Y : ztY X0 S7 n (P ++ []) e ao (0 + ztC P) br lx) (hP : ∀ o, o ∈ P → o ≠ 40 ∧ o < 400) (hn : n + P.length < 400) (h64 : P.length ≤ 64) (y : Int32) : ∃ S8 : zSt, fx_Reader_endLine S7 y = some (0, S8) ∧ ztY X0 S8 (n + P.length + 1) [] 0 ao 0 br lx ∧ ztN (S8.1 126) n P ∧ S8.1 126 (n + P.length) = y ∧ (∀ i, i < n → S8.1 126 i = S7.1 126 i) ∧ (∀ k, 12 ≤ k → S8.1 125 k = S7.1 125 k) := by
  obtain ⟨A, a1, a2, a3, a4, a5⟩ := fx_waits (b := 0) (by omega) (Or.inl rfl) Y (fun o ho => ⟨Nat.zero_le _, hP o ho⟩) (by omega) (by rw [List.append_nil]; exact h64)
  have Y2 := (a2.emit y).se 0
  refine ⟨_, ?_, Y2, ztN_c (fun i h1 h2 => by rw [zI_ne (by omega), zI_ne (by omega), zI_nk (by omega)]) a3, by rw [zI_ne (by omega), zI_ne (by omega), zI_at], fun i hi => by rw [zI_ne (by omega), zI_ne (by omega), zI_nk (by omega)]; exact a4 i hi, fun k hk => by rw [zI_nk (by omega), zI_nk (by omega), zI_ne (by omega)]; exact a5 k hk⟩
  unfold fx_Reader_endLine
  rw [show (0 : Int32) = nI 0 from rfl, a1, zbd_s, fx_emit_eq a2 hn, zbd_s, znm_q]
theorem zj_4w (h8 : S7.1 125 8 = nI 4) (h14 : S7.1 125 14 = nI 257) : fx_Reader_judge S7 = zbd (fx_Reader_emitWaiting S7 (nI 0)) fun _ S_8 => some (0, zpI S_8 125 8 (nI 1)) := by
  unfold fx_Reader_judge fx_Reader_judgeAfterWorth
  simp only [znm_q, zbd_i]
  rw [h8, h14]
  rfl
theorem zj_4e (h8 : S7.1 125 8 = nI 4) (h14 : S7.1 125 14 = nI 59) : fx_Reader_judge S7 = fx_Reader_endLine S7 (-59) := by
  unfold fx_Reader_judge fx_Reader_judgeAfterWorth
  simp only [znm_q, zbd_i]
  rw [h8, h14]
  rfl
theorem zj_4n (hx : x < 400) (h8 : S7.1 125 8 = nI 4) (h14 : S7.1 125 14 = nI x) (n1 : x ≠ 42 ∧ x ≠ 47 ∧ x ≠ 43 ∧ x ≠ 45) (n2 : x ≠ 257) (n3 : x ≠ 59) : fx_Reader_judge S7 = some (nI 1, S7) := by
  have f : ∀ k : Nat, k < 400 → x ≠ k → ¬ nI x = nI k := fun k hk n z => n ((nI_eq (by omega) (by omega)).mp z)
  unfold fx_Reader_judge fx_Reader_judgeAfterWorth
  simp only [znm_q, zbd_i]
  rw [h8, h14, if_neg (by decide), if_neg (by decide), if_neg (by decide), if_neg (by decide), if_pos (by decide), if_neg (show ¬ nI x = (43 : Int32) from f 43 (by omega) (by omega)), if_neg (show ¬ nI x = (45 : Int32) from f 45 (by omega) (by omega)), if_neg (show ¬ nI x = (42 : Int32) from f 42 (by omega) (by omega)), if_neg (show ¬ nI x = (47 : Int32) from f 47 (by omega) (by omega)), if_pos (by decide), if_neg (show ¬ nI x = (257 : Int32) from f 257 (by omega) n2), if_neg (show ¬ nI x = (59 : Int32) from f 59 (by omega) n3)]
  rfl
theorem zj_0 (h8 : S7.1 125 8 = nI 0) : fx_Reader_judge S7 = fx_Reader_judgeLine S7 := by
  unfold fx_Reader_judge
  simp only [znm_q, zbd_i]
  rw [h8, if_pos (by decide)]
end ztend
