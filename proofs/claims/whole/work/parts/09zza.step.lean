/-! one step of reading: an operand, an operator -/
def ztA (T : zSt) : Nat → Int32 := fun k => T.1 5 (k - 660)
theorem ztA_0 {T : zSt} {m : Nat} : ztA T (660 + 2 * m) = T.1 5 (2 * m) := by unfold ztA; rw [Nat.add_sub_cancel_left]
theorem ztA_1 {T : zSt} {m : Nat} : ztA T (661 + 2 * m) = T.1 5 (2 * m + 1) := by unfold ztA; rw [show 661 + 2 * m - 660 = 2 * m + 1 by omega]
theorem ztA_c {T T' : zSt} {m n d : Nat} {V : (Nat → Int32) → Int32} (h : ∀ i, i < 2 * n → T'.1 5 i = T.1 5 i) (H : zMe (ztA T) m n d V) : zMe (ztA T') m n d V := zMe_c (fun i a b => h (i - 660) (by omega)) H
theorem zbd_i {α : Type} (x : Option (α × zSt)) : (zbd x fun r S => some (r, S)) = x := by
  cases x with
  | none => rfl
  | some y => rfl
section zts
variable {t : Nat} {c v p r : Nat → Nat} {X0 M0 : zSt}
/-- where a run of the grammar begins -/
def ztI (t : Nat) (c v p r : Nat → Nat) (X0 M0 : zSt) (S T : zSt) (i q n m : Nat) (W0 : List Nat) (e ao dp br lx ln : Nat) : Prop := ztY X0 S n W0 e ao dp br lx ∧ S.1 125 12 = nI q ∧ ztM c v p r M0 T q m dp ln ∧ q ≤ t ∧ i ≤ q ∧ n + W0.length ≤ q ∧ m ≤ q
/-- where it has come to -/
def ztG (t : Nat) (c v p r : Nat → Nat) (X0 M0 : zSt) (l D B : Nat) (S T : zSt) (i q n m : Nat) (W0 : List Nat) (dp br lx ln : Nat) (S' T' : zSt) (i' q' n' m' : Nat) (P : List Nat) (e' ao' : Nat) (V : (Nat → Int32) → Int32) : Prop :=
  ztR i S = ztR i' S' ∧ ztY X0 S' n' (P ++ W0) e' ao' (dp + ztC P) br lx ∧ S'.1 125 12 = nI q' ∧ ztM c v p r M0 T' q' m' dp ln ∧
  (q' ≤ t ∧ i' + q ≤ i + q' ∧ n' + P.length + q ≤ n + q' ∧ m' + q ≤ m + q' ∧ P.length ≤ B) ∧
  (∀ o, o ∈ P → l ≤ ztB o ∧ o ≠ 40 ∧ o < 400) ∧ (∀ k, k < n → S'.1 126 k = S.1 126 k) ∧ T'.1 4 = T.1 4 ∧ (∀ k, k < 2 * m → T'.1 5 k = T.1 5 k) ∧
  ztF (S'.1 126) n n' P D V ∧ zMe (ztA T') m m' D V
/-- and when an operator was taken -/
def ztH (t : Nat) (D : Nat) (S T : zSt) (i q n m : Nat) (S1 T1 : zSt) (i1 q1 n1 m1 : Nat) (V : (Nat → Int32) → Int32) : Prop :=
  ztR i S = ztR i1 S1 ∧ (q1 ≤ t ∧ i1 + q ≤ i + q1 ∧ n1 + 1 + q ≤ n + q1 ∧ m1 + 1 + q ≤ m + q1) ∧ (∀ k, k < n → S1.1 126 k = S.1 126 k) ∧ T1.1 4 = T.1 4 ∧ (∀ k, k < 2 * m → T1.1 5 k = T.1 5 k) ∧ zXe (S1.1 126) n n1 D V ∧ zMe (ztA T1) m m1 D V
theorem ztG_w {l l' D D' B B' : Nat} {S T S' T' : zSt} {i q n m i' q' n' m' dp br lx ln e' ao' : Nat} {W0 P : List Nat} {V : (Nat → Int32) → Int32} (hl : l' ≤ l) (hD : D ≤ D') (hB : B ≤ B') (G : ztG t c v p r X0 M0 l D B S T i q n m W0 dp br lx ln S' T' i' q' n' m' P e' ao' V) : ztG t c v p r X0 M0 l' D' B' S T i q n m W0 dp br lx ln S' T' i' q' n' m' P e' ao' V := by
  obtain ⟨g1, g2, g3, g4, g5, g6, g7, g8, g9, g10, g11⟩ := G
  exact ⟨g1, g2, g3, g4, by omega, fun o ho => ⟨Nat.le_trans hl (g6 o ho).1, (g6 o ho).2⟩, g7, g8, g9, ztF_d hD g10, zMe_d hD g11⟩
theorem zj_operand (E : ztE t c v p r X0 M0) {S : zSt} {q n : Nat} {W : List Nat} {e A op br lx : Nat} (Y : ztY X0 S n W e A op br lx) (K : ztT c v p r S q) (hq : q ≤ t) : (n < 400 → c q = 300 → fx_Reader_judgeOperand S = some (0, zpI (zpI (zpI S 126 n (nI (v q))) 125 2 (nI (n + 1))) 125 8 (nI A))) ∧ (∀ k, n < 400 → k ≤ 9 → c q = 261 + k → fx_Reader_judgeOperand S = some (0, zpI (zpI (zpI S 126 n (nI (10000 + k))) 125 2 (nI (n + 1))) 125 8 (nI A))) ∧ (c q ≠ 300 → ¬ (261 ≤ c q ∧ c q ≤ 270) → fx_Reader_judgeOperand S = some (nI 1, S)) := by
  have c4 := E.c4 hq
  have hA : ∀ x, (zpI (zpI S 126 n x) 125 2 (nI (n + 1))).1 125 9 = nI A := fun x => (Y.emit x).ao_
  unfold fx_Reader_judgeOperand
  simp only [znm_q]
  rw [K.2.2.1, show (300 : Int32) = nI 300 from rfl, zif_n (by omega) (by omega)]
  refine ⟨fun hn h => ?_, fun k hn hk h => ?_, fun h h2 => ?_⟩
  · rw [if_pos h, K.2.2.2 h, fx_emit_eq Y hn, zbd_s, hA]
  · rw [if_neg (by omega), h, fx_in_in (show ¬ nI (261 + k) < (261 : Int32) from nI_nlt (b := 261) (by omega) (by omega)) (show ¬ (270 : Int32) < nI (261 + k) from nI_nlt (a := 270) (by omega) (by omega)), zbd_s, z_i1, K.2.2.1, h, show (10000 : Int32) + nI (261 + k) - 261 = nI (10000 + k) from by rw [show (10000 : Int32) = nI 10000 from rfl, nI_add, show (261 : Int32) = nI 261 from rfl, pk_sub (by omega), show 10000 + (261 + k) - 261 = 10000 + k by omega], fx_emit_eq Y hn, zbd_s, hA]
  · rw [if_neg h]
    by_cases d : c q < 261
    · rw [fx_in_lo (Or.inl (show nI (c q) < (261 : Int32) from nI_lt (b := 261) d (by omega))), zbd_s, z_i0]
      rfl
    · rw [fx_in_lo (Or.inr (show (270 : Int32) < nI (c q) from nI_lt (a := 270) (by omega) (by omega))), zbd_s, z_i0]
      rfl
theorem zj_2 {S : zSt} (h : S.1 125 8 = nI 2) : fx_Reader_judge S = fx_Reader_judgeOperand S := by
  unfold fx_Reader_judge
  simp only [znm_q]
  rw [h, if_neg (by decide), if_neg (by decide), if_pos (by decide), zbd_i]
theorem zj_1 {S : zSt} (h : S.1 125 8 = nI 1) : fx_Reader_judge S = fx_Reader_judgeCondition S := by
  unfold fx_Reader_judge
  simp only [znm_q]
  rw [h, if_neg (by decide), if_pos (by decide), zbd_i]
theorem zj_1o {S : zSt} {x : Nat} (h : S.1 125 8 = nI 1) (h14 : S.1 125 14 = nI x) (hx : x < 400) (n1 : x ≠ 260) (n2 : x ≠ 40) : fx_Reader_judge S = fx_Reader_judgeOperand (zpI S 125 9 (nI 5)) := by
  rw [zj_1 h]
  unfold fx_Reader_judgeCondition
  simp only [znm_q]
  rw [h14, show (260 : Int32) = nI 260 from rfl, show (40 : Int32) = nI 40 from rfl, zif_n (by omega) (by omega), zif_n (by omega) (by omega), if_neg n1, if_neg n2, zbd_i]
  rfl
theorem zt_unit (E : ztE t c v p r X0 M0) {S T : zSt} {i q n m : Nat} {W0 : List Nat} {e ao dp br lx ln A : Nat} (I : ztI t c v p r X0 M0 S T i q n m W0 e ao dp br lx ln) (hA : (e = 2 ∧ A = ao) ∨ (e = 1 ∧ c q ≠ 260 ∧ c q ≠ 40 ∧ A = 5)) : ztU X0 M0 (ztR i S) (fm_unit T) ∨ ∃ (S' T' : zSt) (V : (Nat → Int32) → Int32), fm_unit T = some (1, T') ∧ ztG t c v p r X0 M0 6 1 0 S T i q n m W0 dp br lx ln S' T' (i + 1) (r q) (n + 1) (m + 1) [] A A V := by
  obtain ⟨Y, i2, M, i4, i5, i6, i7⟩ := I
  have t4 := E.t4
  have c4 := E.c4 i4
  obtain ⟨S7, s1, s2, s3, s4, s5⟩ := ztrd E Y i2 i5 i4 (by omega) (fun z => by omega)
  -- the class, up to its operand
  obtain ⟨S6, a1, a2, a3, a4⟩ : ∃ S6 : zSt, fx_Reader_judge S7 = fx_Reader_judgeOperand S6 ∧ ztY X0 S6 n W0 e A dp br lx ∧ ztT c v p r S6 q ∧ S6.1 126 = S7.1 126 := by
    rcases hA with ⟨rfl, rfl⟩ | ⟨rfl, n1, n2, rfl⟩
    · exact ⟨S7, zj_2 s1.e_, s1, s2, rfl⟩
    · exact ⟨_, zj_1o s1.e_ s2.2.2.1 c4 n1 n2, s1.sao 5, ztT_c s2 (fun k hk => zI_nk (by omega)), zI_ne (by omega)⟩
  by_cases hop : c q = 300 ∨ (261 ≤ c q ∧ c q ≤ 270)
  · refine Or.inr ?_
    have hr := E.ro i4 (by omega)
    have hr2 := (E.rt i4).2
    obtain ⟨o1, o2, o3⟩ := zj_operand E a2 a3 i4
    -- what is emitted, what is laid
    obtain ⟨x, s, y, V, x1, x2, x3, x4⟩ : ∃ (x s y : Int32) (V : (Nat → Int32) → Int32), fx_Reader_judgeOperand S6 = some (0, zpI (zpI (zpI S6 126 n x) 125 2 (nI (n + 1))) 125 8 (nI A)) ∧ fm_unit T = (zbd (fm_lay T s y) fun _ S_8 => zbd (fm_next0 S_8) fun _ S_11 => some (1, S_11)) ∧ (∀ (C : Nat → Int32), C n = x → zXe C n (n + 1) 1 V) ∧ (∀ (a : Nat → Int32), a (660 + 2 * m) = s → a (661 + 2 * m) = y → zMe a m (m + 1) 1 V) := by
      by_cases d : c q = 300
      · refine ⟨nI (v q), 0, nI (v q), fun _ => nI (v q), o1 (by omega) d, ?_, fun C hC => zxn (v q) (E.v9 i4 d) (by omega) hC, fun a h1 h2 => zmn (by omega) 0 (nI (v q)) _ h1 h2 (Or.inl ⟨rfl, rfl⟩)⟩
        unfold fm_unit
        rw [M.1, d, show zmk 300 = 2 from rfl, fm_isIn_lo (Or.inl (by decide)), zbd_s]
        simp only [znm_q]
        rw [if_pos (show T.1 0 14 = 2 from by rw [M.1, d]; rfl), if_pos trivial, M.2.2.1 d]
      · obtain ⟨k, k1, k2⟩ : ∃ k, k ≤ 9 ∧ c q = 261 + k := ⟨c q - 261, by omega, by omega⟩
        have em : zmk (261 + k) = 41 + k := by unfold zmk; rw [if_neg (by omega), if_neg (by omega), if_neg (by omega), if_neg (by omega), if_neg (by omega), if_neg (by omega), if_neg (by omega), if_neg (by omega), if_pos (by omega)]; omega
        refine ⟨nI (10000 + k), nI (k + 1), T.1 0 16, fun F => F k, o2 k (by omega) k1 k2, ?_, fun C hC => zxf k k1 (by omega) hC, fun a h1 h2 => zmn (by omega) _ _ _ h1 h2 (Or.inr ⟨k, k1, rfl, rfl⟩)⟩
        unfold fm_unit
        rw [M.1, k2, em, fm_isIn_in (show ¬ nI (41 + k) < (41 : Int32) from nI_nlt (b := 41) (by omega) (by omega)) (show ¬ (50 : Int32) < nI (41 + k) from nI_nlt (a := 50) (by omega) (by omega)), zbd_s]
        simp only [znm_q]
        rw [M.1, k2, em, if_neg (fun z => by have := (nI_eq (a := 41 + k) (b := 2) (by omega) (by omega)).mp z; omega), z_i1, z_i1, show nI (41 + k) - (40 : Int32) = nI (k + 1) from by rw [show (40 : Int32) = nI 40 from rfl, pk_sub (by omega), show 41 + k - 40 = k + 1 by omega]]
    obtain ⟨T1, t1, t2, t3, t4', t5, t6⟩ := fm_ly M (by omega) s y
    obtain ⟨T2, u1, u2, u3, u4⟩ := fm_nx E t2 i4
    have Y8 := (a2.emit x).se A
    have tt : ∀ k, 12 ≤ k → (zpI (zpI (zpI S6 126 n x) 125 2 (nI (n + 1))) 125 8 (nI A)).1 125 k = S6.1 125 k := fun k hk => by rw [zI_nk (by omega), zI_nk (by omega), zI_ne (by omega)]
    have cd : ∀ k, (zpI (zpI (zpI S6 126 n x) 125 2 (nI (n + 1))) 125 8 (nI A)).1 126 k = (zpI S6 126 n x).1 126 k := fun k => by rw [zI_ne (by omega), zI_ne (by omega)]
    refine ⟨_, T2, V, by rw [x2, t1, zbd_s, u1, zbd_s], s4 _ (a1.trans x1) Y8.f_, Y8, by rw [tt 12 (by omega)]; exact a3.1, u2, ⟨hr2, by omega, by rw [List.length_nil]; omega, by omega, Nat.le_refl _⟩, fun o ho => absurd ho (List.not_mem_nil), fun k hk => by rw [cd, zI_nk (by omega), a4, s3], by rw [u3, t3], fun k hk => by rw [u4]; exact t6 k hk, ztF_0 (x3 _ (by rw [cd, zI_at])), x4 _ (by rw [ztA_0, u4]; exact t4') (by rw [ztA_1, u4]; exact t5)⟩
  · refine Or.inl ⟨1, p q, ?_, ?_⟩
    · obtain ⟨_, _, o3⟩ := zj_operand E a2 a3 i4
      exact s5 1 S6 (by omega) (by omega) (a1.trans (o3 (by omega) (by omega))) a2.o_ a2.l_ a3.2.1
    · have tk := E.tk i4
      have e : fm_unit T = fm_bad T (nI 1) := by
        have ml := zmk_lt tk
        have m2 : ¬ T.1 0 14 = (2 : Int32) := fun z => hop (Or.inl ((ztM.is E M i4 300 (Or.inl rfl)).mp z))
        have mi : nI (zmk (c q)) < (41 : Int32) ∨ (50 : Int32) < nI (zmk (c q)) := by
          have : zmk (c q) < 41 ∨ 50 < zmk (c q) := by
            unfold zTk zSg at tk
            unfold zmk
            repeat' split
            all_goals omega
          rcases this with h | h
          · exact Or.inl (nI_lt (b := 41) h (by omega))
          · exact Or.inr (nI_lt (a := 50) h (by omega))
        unfold fm_unit
        rw [M.1, fm_isIn_lo mi, zbd_s]
        simp only [znm_q]
        rw [if_neg m2, if_pos trivial]
        exact fm_bad_z
      rw [e]
      exact fm_bd M 1
end zts
