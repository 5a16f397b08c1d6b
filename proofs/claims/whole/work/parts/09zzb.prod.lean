/-! an operator is taken; products -/
theorem ztUm_m {M0 : zSt} {A B : Option (Int32 × zSt)} {k pl : Nat} (H : ztUm M0 A k pl) (h : ∀ T', A = some (0, T') → B = some (0, T')) : ztUm M0 B k pl := by
  obtain ⟨T', h1, h2⟩ := H
  exact ⟨T', h T' h1, h2⟩
theorem ztU_m {X0 M0 : zSt} {R R' A B : Option (Int32 × zSt)} (H : ztU X0 M0 R A) (hR : R' = R) (h : ∀ T', A = some (0, T') → B = some (0, T')) : ztU X0 M0 R' B := by
  obtain ⟨k, pl, h1, h2⟩ := H
  exact ⟨k, pl, by rw [hR]; exact h1, ztUm_m h2 h⟩
section zto
variable {t : Nat} {c v p r : Nat → Nat} {X0 M0 : zSt} {S T : zSt} {i q n m : Nat} {W0 : List Nat} {dp br lx ln : Nat}
theorem ztop (E : ztE t c v p r X0 M0) (st : i ≤ q ∧ n + W0.length ≤ q ∧ m ≤ q) {l D B : Nat} {S' T' : zSt} {i' q' n' m' : Nat} {P : List Nat} {e' ao' : Nat} {V : (Nat → Int32) → Int32} (G : ztG t c v p r X0 M0 l D B S T i q n m W0 dp br lx ln S' T' i' q' n' m' P e' ao' V) {o : Nat} (ho : c q' = o) (o3 : o ≠ 301) (hl : ztB o ≤ l) (hW : ztS (ztB o) W0) (h64 : B + W0.length ≤ 62) (he : e' < 8) (ex ao1 : Nat) (hj : ∀ S7 S8 : zSt, S7.1 125 8 = nI e' → S7.1 125 14 = nI o → S7.1 125 11 = nI br → fx_Reader_takeOperator S7 (nI ex) = some ((), S8) → S8.1 125 9 = nI ao' → fx_Reader_judge S7 = some (0, zpI S8 125 9 (nI ao1))) : ∃ S1 T1 : zSt, fm_next0 T' = some ((), T1) ∧ ztH t D S T i q n m S1 T1 (i' + 1) (r q') (n' + P.length) m' V ∧ ztI t c v p r X0 M0 S1 T1 (i' + 1) (r q') (n' + P.length) m' (o :: W0) ex ao1 dp br lx ln := by
  obtain ⟨g1, g2, g3, g4, g5, g6, g7, g8, g9, g10, g11⟩ := G
  have t4 := E.t4
  have c4 := E.c4 g5.1
  have hr := E.ro g5.1 (by omega)
  have hr2 := (E.rt g5.1).2
  obtain ⟨S7, s1, s2, s3, s4, s5⟩ := ztrd (i := i') E g2 g3 (by omega) g5.1 he (fun z => by omega)
  obtain ⟨S8, a1, a2, a3, a4, a5⟩ := fx_takes (o := o) (by omega) hW s1 (by rw [s2.2.2.1, ho]) (fun x hx => ⟨Nat.le_trans hl (g6 x hx).1, (g6 x hx).2⟩) (by omega) (by rw [List.length_append]; omega) (by omega) ex
  have Y := a2.sao ao1
  obtain ⟨T1, u1, u2, u3, u4⟩ := fm_nx E g4 g5.1
  have cd : (zpI S8 125 9 (nI ao1)).1 126 = S8.1 126 := zI_ne (by omega)
  refine ⟨zpI S8 125 9 (nI ao1), T1, u1, ⟨g1.trans (s4 _ (hj S7 S8 s1.e_ (by rw [s2.2.2.1, ho]) s1.br_ a1 a2.ao_) Y.f_), by omega, fun k hk => ?_, u3.trans g8, fun k hk => by rw [u4]; exact g9 k hk, ?_, ?_⟩, Y, ?_, u2, by omega, by omega, by rw [List.length_cons]; omega, by omega⟩
  · have l := g10.1
    rw [cd, a4 k (by omega), s3]
    exact g7 k hk
  · rw [cd]
    exact g10.2 _ (fun k _ hk => by rw [a4 k hk, s3]) a3 (by omega)
  · exact ztA_c (fun k _ => by rw [u4]) g11
  · rw [zI_nk (by omega), a5 12 (by omega)]
    exact s2.1
theorem ztcomb (E : ztE t c v p r X0 M0) (st : i ≤ q ∧ n + W0.length ≤ q ∧ m ≤ q) {l l2 D D2 B2 : Nat} {S1 T1 S2 T2 : zSt} {i1 q1 n1 m1 i2 q2 n2 m2 o e2 ao2 : Nat} {P : List Nat} {V V2 : (Nat → Int32) → Int32} (H : ztH t D S T i q n m S1 T1 i1 q1 n1 m1 V) (G : ztG t c v p r X0 M0 l2 D2 B2 S1 T1 i1 q1 n1 m1 (o :: W0) dp br lx ln S2 T2 i2 q2 n2 m2 P e2 ao2 V2) (hl : l ≤ l2 ∧ l ≤ ztB o) (o1 : o ≠ 40) (o2 : o < 400) (o3 : o ≠ 260) (hD : max D (1 + D2) ≤ D) (g : Int32 → Int32 → Int32) (ha : ∀ (S : zSt) (x y : Int32), fx_Rule_apply S (-(-nI o)) x y = some (g x y, S)) (k0 : -nI o < 0 ∧ ¬ -nI o = -59 ∧ ¬ -nI o = -257 ∧ ¬ -nI o = -260) (s : Nat) (hs : 13 ≤ s ∧ s ≤ 22 ∧ s ≠ 16 ∧ s ≠ 20) (hb : ∀ (S : zSt) (x y : Int32), fm_both S (nI s) x y = some (g x y, S)) : ∃ T3 : zSt, fm_lay T2 (nI s) 0 = some ((), T3) ∧ ztG t c v p r X0 M0 l D (B2 + 1) S T i q n m W0 dp br lx ln S2 T3 i2 q2 n2 (m2 + 1) (P ++ [o]) e2 ao2 (fun F => g (V F) (V2 F)) := by
  obtain ⟨h1, h2, h3, h4, h5, h6, h7⟩ := H
  obtain ⟨g1, g2, g3, g4, g5, g6, g7, g8, g9, g10, g11⟩ := G
  have t4 := E.t4
  have x1 := h6.1
  have y1 := h7.1
  obtain ⟨T3, a1, a2, a3, a4, a5, a6⟩ := fm_ly g4 (by omega) (nI s) 0
  have y2 := g11.1
  refine ⟨T3, a1, h1.trans g1, ?_, g3, a2, ?_, fun x hx => ?_, fun k hk => ?_, by rw [a3, g8, h4], fun k hk => ?_, ?_, ?_⟩
  · rw [List.append_assoc, ztC_app, if_neg o3]
    exact g2
  · rw [List.length_append, List.length_singleton]
    omega
  · rcases List.mem_append.mp hx with h | h
    · exact ⟨Nat.le_trans hl.1 (g6 x h).1, (g6 x h).2⟩
    · rw [List.mem_singleton] at h
      subst h
      exact ⟨hl.2, o1, o2⟩
  · rw [g7 k (by omega)]
    exact h3 k hk
  · rw [a6 k (by omega), g9 k (by omega)]
    exact h5 k hk
  · exact ztF_d hD (ztF_2 g (fun S x F => ha S x _) k0.1 k0.2.1 k0.2.2.1 k0.2.2.2 (zXe_c (fun k _ hk => g7 k hk) h6) g10)
  · exact zMe_d hD (zm2 g hb hs.1 hs.2.1 hs.2.2.1 hs.2.2.2 (ztA_c (fun k hk => by rw [a6 k (by omega), g9 k (by omega)]) h7) (ztA_c (fun k hk => a6 k hk) g11) (by omega) (by rw [ztA_0]; exact a4))
theorem zj_ar {S7 S8 : zSt} {A o : Nat} (hA : A = 4 ∨ A = 5 ∨ A = 6) (h8 : S7.1 125 8 = nI A) (h14 : S7.1 125 14 = nI o) (ho : o = 43 ∨ o = 45 ∨ o = 42 ∨ o = 47) (ex : Nat) (hx : (o = 47 → ex = 3) ∧ (o ≠ 47 → ex = 2)) (ht : fx_Reader_takeOperator S7 (nI ex) = some ((), S8)) : fx_Reader_judge S7 = some (0, S8) := by
  unfold fx_Reader_judge
  simp only [znm_q]
  rw [h8, h14]
  have e : (if nI o = 43 then if nI o = 47 then zbd (fx_Reader_takeOperator S7 3) fun _ S_6 => some ((0 : Int32), S_6) else zbd (fx_Reader_takeOperator S7 2) fun _ S_6 => some (0, S_6) else if nI o = 45 then if nI o = 47 then zbd (fx_Reader_takeOperator S7 3) fun _ S_6 => some (0, S_6) else zbd (fx_Reader_takeOperator S7 2) fun _ S_6 => some (0, S_6) else if nI o = 42 then if nI o = 47 then zbd (fx_Reader_takeOperator S7 3) fun _ S_6 => some (0, S_6) else zbd (fx_Reader_takeOperator S7 2) fun _ S_6 => some (0, S_6) else if nI o = 47 then if nI o = 47 then zbd (fx_Reader_takeOperator S7 3) fun _ S_6 => some (0, S_6) else zbd (fx_Reader_takeOperator S7 2) fun _ S_6 => some (0, S_6) else none) = some (0, S8) := by
    rcases ho with rfl | rfl | rfl | rfl
    · rw [hx.2 (by omega)] at ht
      rw [if_pos (by decide), if_neg (by decide), show (2 : Int32) = nI 2 from rfl, ht, zbd_s]
    · rw [hx.2 (by omega)] at ht
      rw [if_neg (by decide), if_pos (by decide), if_neg (by decide), show (2 : Int32) = nI 2 from rfl, ht, zbd_s]
    · rw [hx.2 (by omega)] at ht
      rw [if_neg (by decide), if_neg (by decide), if_pos (by decide), if_neg (by decide), show (2 : Int32) = nI 2 from rfl, ht, zbd_s]
    · rw [hx.1 rfl] at ht
      rw [if_neg (by decide), if_neg (by decide), if_neg (by decide), if_pos (by decide), if_pos (by decide), show (3 : Int32) = nI 3 from rfl, ht, zbd_s]
  rcases ho with rfl | rfl | rfl | rfl <;> rcases hA with rfl | rfl | rfl <;> exact e
end zto
