/-! one test -/
section ztk
variable {X0 S7 : zSt} {n : Nat} {W0 P : List Nat} {e ao dp br lx x : Nat}
theorem zj_open (Y : ztY X0 S7 n W0 1 ao dp br lx) (h14 : S7.1 125 14 = nI x) (hx : x = 260 ∨ x = 40) (d8 : dp < 8) (h5 : W0.length < 64) : ∃ S8 : zSt, fx_Reader_judge S7 = some (0, S8) ∧ ztY X0 S8 n (x :: W0) 1 ao (dp + 1) (if x = 40 then br + 1 else br) lx ∧ S8.1 126 = S7.1 126 ∧ (∀ k, 12 ≤ k → S8.1 125 k = S7.1 125 k) := by
  have Y1 := Y.sop (dp + 1)
  have g14 : (zpI S7 125 10 (nI (dp + 1))).1 125 14 = nI x := by rw [zI_nk (by omega)]; exact h14
  have hj : fx_Reader_judge S7 = (if nI x = 40 then zbd (fx_Reader_push (zpI (zpI S7 125 10 (nI (dp + 1))) 125 11 ((zpI S7 125 10 (nI (dp + 1))).1 125 11 + 1)) ((zpI (zpI S7 125 10 (nI (dp + 1))) 125 11 ((zpI S7 125 10 (nI (dp + 1))).1 125 11 + 1)).1 125 14)) fun _ S_5 => some ((0 : Int32), S_5) else zbd (fx_Reader_push (zpI S7 125 10 (nI (dp + 1))) ((zpI S7 125 10 (nI (dp + 1))).1 125 14)) fun _ S_5 => some (0, S_5)) := by
    rw [zj_1 Y.e_]
    unfold fx_Reader_judgeCondition
    simp only [znm_q]
    rw [Y.op_, if_pos (show nI dp < (8 : Int32) from nI_lt (b := 8) d8 (by omega)), nI_1, g14, h14]
    rcases hx with rfl | rfl
    · rw [if_pos (by decide)]
    · rw [if_neg (by decide), if_pos (by decide)]
  rcases hx with rfl | rfl
  · rw [if_neg (by decide), g14, fx_push_eq Y1 h5, zbd_s] at hj
    exact ⟨_, hj, by rw [if_neg (by omega)]; exact Y1.push 260, by rw [zI_ne (by omega), zI_ne (by omega), zI_ne (by omega)], fun k hk => by rw [zI_nk (by omega), zI_ne (by omega), zI_nk (by omega)]⟩
  · have Y2 := Y1.sbr (br + 1)
    rw [if_pos (by decide), Y1.br_, nI_1, zI_nk (show 14 ≠ 11 by omega), g14, fx_push_eq Y2 h5, zbd_s] at hj
    exact ⟨_, hj, by rw [if_pos rfl]; exact Y2.push 40, by rw [zI_ne (by omega), zI_ne (by omega), zI_ne (by omega), zI_ne (by omega)], fun k hk => by rw [zI_nk (by omega), zI_ne (by omega), zI_nk (by omega), zI_nk (by omega)]⟩
theorem zj_open8 (Y : ztY X0 S7 n W0 1 ao 8 br lx) (h14 : S7.1 125 14 = nI x) (hx : x = 260 ∨ x = 40) : fx_Reader_judge S7 = some (nI 3, S7) := by
  rw [zj_1 Y.e_]
  unfold fx_Reader_judgeCondition
  simp only [znm_q]
  rw [Y.op_, if_neg (show ¬ nI 8 < (8 : Int32) by decide), h14]
  rcases hx with rfl | rfl
  · rw [if_pos (by decide)]; rfl
  · rw [if_neg (by decide), if_pos (by decide)]; rfl
theorem fx_closes (Y : ztY X0 S7 n (P ++ 40 :: W0) e ao (dp + 1 + ztC P) (br + 1) lx) (hP : ∀ o, o ∈ P → o ≠ 40 ∧ o < 400) (hn : n + P.length ≤ 400) (h64 : (P ++ 40 :: W0).length ≤ 64) : ∃ S8 : zSt, fx_Reader_closeBracket S7 = some ((), S8) ∧ ztY X0 S8 (n + P.length) W0 7 ao dp br lx ∧ ztN (S8.1 126) n P ∧ (∀ i, i < n → S8.1 126 i = S7.1 126 i) ∧ (∀ k, 12 ≤ k → S8.1 125 k = S7.1 125 k) := by
  obtain ⟨A, a1, a2, a3, a4, a5⟩ := fx_waits (b := 0) (by omega) (Or.inr ⟨40, W0, rfl, by omega, Or.inl rfl⟩) Y (fun o ho => ⟨Nat.zero_le _, hP o ho⟩) hn h64
  have Y1 := (a2.sbr br).sop dp
  have Y2 := (ztY.pop Y1).se 7
  refine ⟨_, ?_, Y2, by rw [zI_ne (by omega), zI_ne (by omega), zI_ne (by omega), zI_ne (by omega)]; exact a3, fun k hk => by rw [zI_ne (by omega), zI_ne (by omega), zI_ne (by omega), zI_ne (by omega)]; exact a4 k hk, fun k hk => by rw [zI_nk (by omega), zI_nk (by omega), zI_nk (by omega), zI_nk (by omega)]; exact a5 k hk⟩
  have wl : W0.length < 64 := by rw [List.length_append, List.length_cons] at h64; omega
  have mx : (if (0 : Int32) < nI W0.length then nI W0.length else 0) = nI W0.length := by
    by_cases d : W0.length = 0
    · rw [d]; decide
    · rw [if_pos (zgt0 (by omega) (by omega))]
  unfold fx_Reader_closeBracket
  rw [show (0 : Int32) = nI 0 from rfl, a1, zbd_s, znm_q, a2.br_, nI_pred, znm_q, (a2.sbr br).op_, nI_pred, znm_q, Y1.w_, List.length_cons, nI_pred, znm_q]
  rw [show nI 0 = (0 : Int32) from rfl, mx]
  rfl
end ztk
theorem fm_ot_260 {rec : zSt → Option (Int32 × zSt)} {T : zSt} (h : T.1 0 14 = 6) : fm_oneTest rec T = zbd (fm_opens T) fun r_40 S_41 => if r_40 = 0 then some (0, S_41) else zbd (rec S_41) fun r_44 S_45 => if r_44 = 0 then some (0, S_45) else zbd (fm_lay (zpI S_45 0 20 (S_45.1 0 20 - 1)) 20 0) fun _ S_49 => some (1, S_49) := by
  unfold fm_oneTest
  simp only [znm_q]
  rw [h, if_pos rfl]
theorem fm_ot_40 {rec : zSt → Option (Int32 × zSt)} {T : zSt} (h : T.1 0 14 = 140) : fm_oneTest rec T = zbd (fm_opens T) fun r_25 S_26 => if r_25 = 0 then some (0, S_26) else zbd (fm_any rec S_26) fun r_29 S_30 => if r_29 = 0 then some (0, S_30) else zbd (fm_need S_30 141) fun r_32 S_33 => if r_32 = 0 then some (0, S_33) else some (1, zpI S_33 0 20 (S_33.1 0 20 - 1)) := by
  unfold fm_oneTest
  simp only [znm_q]
  rw [h, if_neg (by decide), if_pos rfl]
theorem fm_ot_s {rec : zSt → Option (Int32 × zSt)} {T : zSt} (h : ¬ T.1 0 14 = 6) (h2 : ¬ T.1 0 14 = 140) : fm_oneTest rec T = zbd (fm_sumUp T) fun r_1 S_2 => if r_1 = 0 then some (0, S_2) else (if S_2.1 0 14 = 160 then (zbd (fm_next0 S_2) fun _ S_7 => zbd (fm_sumUp S_7) fun r_9 S_10 => if r_9 = 0 then some (0, S_10) else zbd (fm_lay S_10 (nI (17 + 0)) 0) fun _ S_13 => some (1, S_13)) else if S_2.1 0 14 = 161 then (zbd (fm_next0 S_2) fun _ S_7 => zbd (fm_sumUp S_7) fun r_9 S_10 => if r_9 = 0 then some (0, S_10) else zbd (fm_lay S_10 (nI (17 + 1)) 0) fun _ S_13 => some (1, S_13)) else if S_2.1 0 14 = 162 then (zbd (fm_next0 S_2) fun _ S_7 => zbd (fm_sumUp S_7) fun r_9 S_10 => if r_9 = 0 then some (0, S_10) else zbd (fm_lay S_10 (nI (17 + 2)) 0) fun _ S_13 => some (1, S_13)) else fm_bad S_2 (nI 1)) := by
  unfold fm_oneTest
  simp only [znm_q]
  rw [if_neg h, if_neg h2]
  simp only [fm_bad_z]
  rfl
theorem fm_ot_c {T : zSt} {k : Nat} {A : Nat → Option (Int32 × zSt)} {B : Option (Int32 × zSt)} (hk : k ≤ 2) (h : T.1 0 14 = nI (160 + k)) : (if T.1 0 14 = 160 then A 0 else if T.1 0 14 = 161 then A 1 else if T.1 0 14 = 162 then A 2 else B) = A k := by
  rw [h]
  rcases (show k = 0 ∨ k = 1 ∨ k = 2 by omega) with rfl | rfl | rfl
  · rw [if_pos (by decide)]
  · rw [if_neg (by decide), if_pos (by decide)]
  · rw [if_neg (by decide), if_neg (by decide), if_pos (by decide)]
theorem zj_5 {S7 S8 : zSt} {k : Nat} (hk : k ≤ 2) (h8 : S7.1 125 8 = nI 5) (h14 : S7.1 125 14 = nI (60 + k)) (ht : fx_Reader_takeOperator S7 (nI 2) = some ((), S8)) : fx_Reader_judge S7 = some (0, zpI S8 125 9 (nI 6)) := by
  unfold fx_Reader_judge fx_Reader_judgeComparison
  simp only [znm_q, zbd_i]
  rw [h8, h14, show (2 : Int32) = nI 2 from rfl, ht]
  rcases (show k = 0 ∨ k = 1 ∨ k = 2 by omega) with rfl | rfl | rfl <;> rfl
theorem zj_5n {S7 : zSt} {x : Nat} (hx : x < 400) (h8 : S7.1 125 8 = nI 5) (h14 : S7.1 125 14 = nI x) (n1 : x ≠ 42 ∧ x ≠ 47 ∧ x ≠ 43 ∧ x ≠ 45) (n2 : ¬ (60 ≤ x ∧ x ≤ 62)) : fx_Reader_judge S7 = some (nI 1, S7) := by
  have f : ∀ k : Nat, k < 400 → x ≠ k → ¬ nI x = nI k := fun k hk n z => n ((nI_eq (by omega) (by omega)).mp z)
  unfold fx_Reader_judge fx_Reader_judgeComparison
  simp only [znm_q, zbd_i]
  rw [h8, h14, if_neg (by decide), if_neg (by decide), if_neg (by decide), if_neg (by decide), if_neg (by decide), if_pos (by decide), if_neg (show ¬ nI x = (43 : Int32) from f 43 (by omega) (by omega)), if_neg (show ¬ nI x = (45 : Int32) from f 45 (by omega) (by omega)), if_neg (show ¬ nI x = (42 : Int32) from f 42 (by omega) (by omega)), if_neg (show ¬ nI x = (47 : Int32) from f 47 (by omega) (by omega)), if_neg (by decide), if_pos (by decide), if_neg (show ¬ nI x = (60 : Int32) from f 60 (by omega) (by omega)), if_neg (show ¬ nI x = (61 : Int32) from f 61 (by omega) (by omega)), if_neg (show ¬ nI x = (62 : Int32) from f 62 (by omega) (by omega))]
  rfl
section ztone
variable {t : Nat} {c v p r : Nat → Nat} {X0 M0 : zSt} {dp : Nat} {rec : zSt → Option (Int32 × zSt)}
theorem fm_open8 {T : zSt} {q m ln : Nat} (M : ztM c v p r M0 T q m 8 ln) : fm_opens T = fm_bad T (nI 3) := by
  unfold fm_opens
  rw [M.2.2.2.2.2.1, if_pos (by decide), fm_bad_z]
  rfl
theorem fm_open (E : ztE t c v p r X0 M0) {T : zSt} {q m ln : Nat} (M : ztM c v p r M0 T q m dp ln) (hq : q ≤ t) (d8 : dp < 8) : ∃ T1 : zSt, fm_opens T = some (1, T1) ∧ ztM c v p r M0 T1 (r q) m (dp + 1) ln ∧ T1.1 4 = T.1 4 ∧ T1.1 5 = T.1 5 := by
  obtain ⟨T1, u1, u2, u3, u4⟩ := fm_nx E (M.dp (dp + 1)) hq
  refine ⟨T1, ?_, u2, by rw [u3, zI_ne (by omega)], by rw [u4, zI_ne (by omega)]⟩
  unfold fm_opens
  rw [M.2.2.2.2.2.1, if_neg (fun z => by have := (nI_eq (a := dp) (b := 8) (by omega) (by omega)).mp z; omega), nI_1, znm_q, u1, zbd_s]
theorem zt_one (E : ztE t c v p r X0 M0) (d8 : dp ≤ 8) (hrec : dp < 8 → ztQ t c v p r X0 M0 rec 3 4 (20 - 2 * (dp + 1)) (11 - (dp + 1)) (3 * (dp + 1) + 2) (dp + 1) (fun _ => True)) (hany : dp < 8 → ztQ t c v p r X0 M0 (fm_any rec) 1 1 (22 - 2 * (dp + 1)) (13 - (dp + 1)) (3 * (dp + 1)) (dp + 1) (fun x => (True ∧ x ≠ 259) ∧ x ≠ 258)) : ztQ t c v p r X0 M0 (fm_oneTest rec) 3 4 (20 - 2 * dp) (11 - dp) (3 * dp + 2) dp (fun _ => True) := by
  intro S T i q n m W0 ao br lx ln I hbr hW h5
  have I' := I
  obtain ⟨Y, i2, M, i4, i5, i6, i7⟩ := I
  have st : i ≤ q ∧ n + W0.length ≤ q ∧ m ≤ q := ⟨i5, i6, i7⟩
  have t4 := E.t4
  have c4 := E.c4 i4
  have hr := E.rt i4
  have is6 := ztM.is E M i4 260 (by unfold zTk; omega)
  have is40 := ztM.is E M i4 40 (by unfold zTk zSg; omega)
  by_cases d : c q = 260 ∨ c q = 40
  · have hr' := E.ro i4 (by omega)
    obtain ⟨S7, s1, s2, s3, s4, s5⟩ := ztrd (i := i) E Y i2 i5 i4 (by omega) (fun z => by omega)
    by_cases e8 : dp = 8
    · subst e8
      refine Or.inl ⟨3, p q, s5 3 S7 (by omega) (by omega) (zj_open8 s1 s2.2.2.1 d) s1.o_ s1.l_ s2.2.1, ?_⟩
      refine ztUm_m (fm_bd M 3) (fun T' h => ?_)
      rcases d with d | d
      · rw [fm_ot_260 (is6.mpr d), fm_open8 M, h, zbd_s, z_i0]
      · rw [fm_ot_40 (is40.mpr d), fm_open8 M, h, zbd_s, z_i0]
    have d8' : dp < 8 := by omega
    obtain ⟨S8, j1, j2, j3, j4⟩ := zj_open s1 s2.2.2.1 d d8' (by omega)
    obtain ⟨T1, u1, u2, u3, u4⟩ := fm_open E M i4 d8'
    have R1 : ztR i S = ztR (i + 1) S8 := s4 S8 j1 j2.f_
    have g12 : S8.1 125 12 = nI (r q) := (j4 12 (by omega)).trans s2.1
    rcases d with d | d
    · -- not
      rw [d] at j2
      rw [if_neg (by omega)] at j2
      have I1 : ztI t c v p r X0 M0 S8 T1 (i + 1) (r q) n m (260 :: W0) 1 ao (dp + 1) br lx ln := ⟨j2, g12, u2, hr.2, by omega, by rw [List.length_cons]; omega, by omega⟩
      rcases hrec d8' S8 T1 (i + 1) (r q) n m (260 :: W0) ao br lx ln I1 (by omega) (ztS_c (by omega) (by decide)) (by rw [List.length_cons]; omega) with U | ⟨S2, T2, i2', q2, n2, m2, P2, e2, ao2, V2, x1, G2, x2, x3, x4, x5⟩
      · exact Or.inl (ztU_m U R1 (fun Z h => by rw [fm_ot_260 (is6.mpr d), u1, zbd_s, z_i1, h, zbd_s, z_i0]))
      · refine Or.inr ?_
        obtain ⟨g1, g2, g3, g4, g5, g6, g7, g8, g9, g10, g11⟩ := G2
        have M2 := g4.dp dp
        obtain ⟨T3, y1, y2, y3, y4, y5, y6⟩ := fm_ly M2 (by omega) 20 0
        have f5 : ∀ k, k < 2 * m2 → T3.1 5 k = T2.1 5 k := fun k hk => by rw [y6 k hk, zI_ne (by omega)]
        have ml := g11.1
        refine ⟨S2, T3, i2', q2, n2, m2 + 1, P2 ++ [260], e2, ao2, fun F => 1 - V2 F, ?_, ⟨R1.trans g1, ?_, g3, y2, ?_, fun o ho => ?_, fun k hk => ?_, ?_, fun k hk => ?_, ?_, ?_⟩, x2, by omega, fun F => ?_, trivial⟩
        · rw [fm_ot_260 (is6.mpr d), u1, zbd_s, z_i1, x1, zbd_s, z_i1, g4.2.2.2.2.2.1, nI_pred, y1, zbd_s]
        · rw [List.append_assoc, ztC_app, if_pos rfl, show dp + (ztC P2 + 1) = dp + 1 + ztC P2 by omega]
          exact g2
        · rw [List.length_append, List.length_singleton]
          omega
        · rcases List.mem_append.mp ho with h | h
          · exact g6 o h
          · rw [List.mem_singleton] at h
            subst h
            decide
        · rw [g7 k hk, j3, s3]
        · rw [y3, zI_ne (by omega), g8, u3]
        · rw [f5 k (by omega), g9 k hk, u4]
        · exact ztF_d (by omega) (ztF_1 g10)
        · exact zMe_d (by omega) (zm1 20 0 (fun x => 1 - x) (Or.inl ⟨rfl, rfl⟩) (ztA_c f5 g11) (by omega) (by rw [ztA_0]; exact y4) (fun z => absurd z (by decide)))
        · rcases x4 F with h | h
          · exact Or.inr (by show 1 - V2 F = 1; rw [h]; decide)
          · exact Or.inl (by show 1 - V2 F = 0; rw [h]; decide)
    · -- a bracket
      rw [d] at j2
      rw [if_pos rfl] at j2
      have I1 : ztI t c v p r X0 M0 S8 T1 (i + 1) (r q) n m (40 :: W0) 1 ao (dp + 1) (br + 1) lx ln := ⟨j2, g12, u2, hr.2, by omega, by rw [List.length_cons]; omega, by omega⟩
      rcases hany d8' S8 T1 (i + 1) (r q) n m (40 :: W0) ao (br + 1) lx ln I1 (by omega) (Or.inr ⟨40, W0, rfl, by omega, Or.inl rfl⟩) (by rw [List.length_cons]; omega) with U | ⟨S2, T2, i2', q2, n2, m2, P2, e2, ao2, V2, x1, G2, x2, x3, x4, ⟨_, x5⟩, x6⟩
      · exact Or.inl (ztU_m U R1 (fun Z h => by rw [fm_ot_40 (is40.mpr d), u1, zbd_s, z_i1, h, zbd_s, z_i0]))
      · obtain ⟨g1, g2, g3, g4, g5, g6, g7, g8, g9, g10, g11⟩ := G2
        obtain ⟨e8', e0⟩ := ztV_8 x2
        have cc4 := E.c4 g5.1
        obtain ⟨A7, b1, b2, b3, b4, b5⟩ := ztrd (i := i2') E g2 g3 (by omega) g5.1 e8' (fun z => by omega)
        have is41 : T2.1 0 14 = 141 ↔ c q2 = 41 := ztM.is E g4 g5.1 41 (by unfold zTk zSg; omega)
        have jc := zj_c b1.e_ b2.2.2.1 cc4 x2
        by_cases d2 : c q2 = 41
        · refine Or.inr ?_
          have hr2 := E.ro g5.1 (by omega)
          have hr3 := E.rt g5.1
          obtain ⟨A8, k1, k2, k3, k4, k5⟩ := fx_closes b1 (fun o ho => (g6 o ho).2) (by omega) (by rw [List.length_append, List.length_cons]; omega)
          have j : fx_Reader_judge A7 = some (0, A8) := by rw [jc, zjc_41 (by rw [b2.2.2.1, d2]) b1.br_ (by omega), k1, zbd_s]
          obtain ⟨T3, y1, y2, y3, y4⟩ := fm_nx E g4 g5.1
          have M3 := y2.dp dp
          have nl := g10.1
          refine ⟨A8, zpI T3 0 20 (nI dp), i2' + 1, r q2, n2 + P2.length, m2, [], 7, ao2, V2, ?_, ⟨(R1.trans g1).trans (b4 A8 j k2.f_), k2, (k5 12 (by omega)).trans b2.1, M3, ?_, fun o ho => absurd ho List.not_mem_nil, fun k hk => ?_, ?_, fun k hk => ?_, ?_, ?_⟩, Or.inl rfl, by omega, x4, trivial⟩
          · have nd : fm_need T2 141 = some (1, T3) := by unfold fm_need; rw [if_pos (is41.mpr d2), y1, zbd_s]
            rw [fm_ot_40 (is40.mpr d), u1, zbd_s, z_i1, x1, zbd_s, z_i1, nd, zbd_s, z_i1, y2.2.2.2.2.2.1, nI_pred]
          · rw [List.length_nil]
            omega
          · rw [k4 k (by omega), b3, g7 k hk, j3, s3]
          · rw [zI_ne (by omega), y3, g8, u3]
          · rw [zI_ne (by omega), y4, g9 k hk, u4]
          · exact ztF_d (by omega) (ztF_0 (g10.2 _ (fun k _ hk => by rw [k4 k hk, b3]) k3 (by omega)))
          · exact zMe_d (by omega) (ztA_c (fun k hk => by rw [zI_ne (by omega), y4]) g11)
        · refine Or.inl ⟨1, p q2, ?_, ?_⟩
          · rw [R1, g1]
            exact b5 1 A7 (by omega) (by omega) (by rw [jc, zjc_n b2.2.2.1 cc4 b1.br_ (by omega) x6 x5 (fun z => absurd z d2) (fun _ => by omega)]) b1.o_ b1.l_ b2.2.1
          · refine ztUm_m (fm_bd g4 1) (fun T' h => ?_)
            have nd : fm_need T2 141 = some (0, T') := by unfold fm_need; rw [if_neg (fun z => d2 (is41.mp z)), fm_bad_z]; exact h
            rw [fm_ot_40 (is40.mpr d), u1, zbd_s, z_i1, x1, zbd_s, z_i1, nd, zbd_s, z_i0]
  · -- two sums
    have n6 : ¬ T.1 0 14 = 6 := fun z => d (Or.inl (is6.mp z))
    have n40 : ¬ T.1 0 14 = 140 := fun z => d (Or.inr (is40.mp z))
    rcases zt_sum E I' (A := 5) (Or.inr ⟨rfl, fun z => d (Or.inl z), fun z => d (Or.inr z), rfl⟩) (by omega) (ztS_le (by omega) hW) (by omega) with U | ⟨S2, T2, i2', q2, n2, m2, P2, V2, x1, G2, x2, x3⟩
    · exact Or.inl (ztU_m U rfl (fun Z h => by rw [fm_ot_s n6 n40, h, zbd_s, z_i0]))
    · have M2 := G2.2.2.2.1
      have hq2 := G2.2.2.2.2.1.1
      have cc4 := E.c4 hq2
      have hr2 := E.rt hq2
      by_cases d2 : 60 ≤ c q2 ∧ c q2 ≤ 62
      · obtain ⟨k, k1, k2⟩ : ∃ k, k ≤ 2 ∧ c q2 = 60 + k := ⟨c q2 - 60, by omega, by omega⟩
        have hr3 := E.ro hq2 (by omega)
        have em : zmk (60 + k) = 160 + k := by rcases (show k = 0 ∨ k = 1 ∨ k = 2 by omega) with rfl | rfl | rfl <;> rfl
        have eb : ztB (60 + k) = 4 := by rcases (show k = 0 ∨ k = 1 ∨ k = 2 by omega) with rfl | rfl | rfl <;> rfl
        have ez : -nI (60 + k) = zcc k := by rcases (show k = 0 ∨ k = 1 ∨ k = 2 by omega) with rfl | rfl | rfl <;> rfl
        have is : T2.1 0 14 = nI (160 + k) := by rw [← em]; exact (ztM.is E M2 hq2 (60 + k) (by unfold zTk zSg; omega)).mpr k2
        obtain ⟨S3, T3, u1, H, I3⟩ := ztop E st (ztG_w (l' := 4) (D' := 20 - 2 * dp) (B' := 2) (by omega) (by omega) (by omega) G2) k2 (by omega) (by rw [eb]; omega) (by rw [eb]; exact hW) (by omega) (by omega) 2 6 (fun S7 S8 a b _ x e => zj_5 k1 a b x)
        rcases zt_sum E I3 (A := 6) (Or.inl ⟨rfl, rfl⟩) (by omega) (ztS_c (by omega) (by rw [eb]; omega)) (by rw [List.length_cons]; omega) with U | ⟨S4, T4, i4', q4, n4, m4, P4, V4, y1, G4, y2, y3⟩
        · exact Or.inl (ztU_m U H.1 (fun Z h => by rw [fm_ot_s n6 n40, x1, zbd_s, z_i1]; refine (fm_ot_c (A := fun k => zbd (fm_next0 T2) fun _ S_7 => zbd (fm_sumUp S_7) fun r_9 S_10 => if r_9 = 0 then some (0, S_10) else zbd (fm_lay S_10 (nI (17 + k)) 0) fun _ S_13 => some (1, S_13)) k1 is).trans ?_; show (zbd (fm_next0 T2) _) = _; rw [u1, zbd_s, h, zbd_s, z_i0]))
        · obtain ⟨T5, z1, G5⟩ := ztcomb (l := 3) E st H G4 ⟨by omega, by rw [eb]; omega⟩ (by omega) (by omega) (by omega) (by omega) (zcp k) (fun S x y => by rw [ez]; exact fx_ap_cmp k1) (by rw [ez]; exact zcc_s k) (17 + k) (by omega) (fun S x y => fm_bo_cmp k1)
          refine Or.inr ⟨S4, T5, i4', q4, n4, m4 + 1, P4 ++ [60 + k], 6, 6, _, ?_, ztG_w (Nat.le_refl _) (Nat.le_refl _) (by omega) G5, Or.inr ⟨rfl, y2⟩, by omega, fun F => ?_, trivial⟩
          · rw [fm_ot_s n6 n40, x1, zbd_s, z_i1]
            refine (fm_ot_c (A := fun k => zbd (fm_next0 T2) fun _ S_7 => zbd (fm_sumUp S_7) fun r_9 S_10 => if r_9 = 0 then some (0, S_10) else zbd (fm_lay S_10 (nI (17 + k)) 0) fun _ S_13 => some (1, S_13)) k1 is).trans ?_
            show (zbd (fm_next0 T2) _) = _
            rw [u1, zbd_s, y1, zbd_s, z_i1, z1, zbd_s]
          · show zcp k (V2 F) (V4 F) = 0 ∨ zcp k (V2 F) (V4 F) = 1
            unfold zcp
            repeat' split
            all_goals first | exact Or.inl rfl | exact Or.inr rfl
      · obtain ⟨g1, g2, g3, g4, g5, g6, g7, g8, g9, g10, g11⟩ := G2
        obtain ⟨A7, b1, b2, b3, b4, b5⟩ := ztrd (i := i2') E g2 g3 (by omega) g5.1 (by omega) (fun z => by omega)
        refine Or.inl ⟨1, p q2, by rw [g1]; exact b5 1 A7 (by omega) (by omega) (zj_5n cc4 b1.e_ b2.2.2.1 x2 d2) b1.o_ b1.l_ b2.2.1, ?_⟩
        have e : fm_oneTest rec T = fm_bad T2 (nI 1) := by
          rw [fm_ot_s n6 n40, x1, zbd_s, z_i1, if_neg (fun z => d2 (by have := (ztM.is E g4 g5.1 60 (by unfold zTk zSg; omega)).mp z; omega)), if_neg (fun z => d2 (by have := (ztM.is E g4 g5.1 61 (by unfold zTk zSg; omega)).mp z; omega)), if_neg (fun z => d2 (by have := (ztM.is E g4 g5.1 62 (by unfold zTk zSg; omega)).mp z; omega))]
        rw [e]
        exact fm_bd g4 1
end ztone
