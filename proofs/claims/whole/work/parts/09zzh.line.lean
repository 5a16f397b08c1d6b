/-! a line of a rule -/
theorem ztM.c4 {c v p r : Nat → Nat} {M0 T : zSt} {q m dp ln : Nat} (H : ztM c v p r M0 T q m dp ln) (k : Nat) (x : Int32) : ztM c v p r M0 (zpI T 4 k x) q m dp ln := by
  obtain ⟨h1, h2, h3, h4, h5, h6, h7, h8, h9, h10⟩ := H
  have e : (zpI T 4 k x).1 0 = T.1 0 := zI_ne (by omega)
  exact ⟨by rw [e]; exact h1, by rw [e]; exact h2, fun z => by rw [e]; exact h3 z, by rw [e]; exact h4, by rw [e]; exact h5, by rw [e]; exact h6, by rw [e]; exact h7, by rw [e]; exact h8, fun k hk => by rw [e]; exact h9 k hk, fun q a b d => by rw [zI_ne b]; exact h10 q a b d⟩
/-- the end of a line, and what is behind its sum -/
def ztL2 (S_12 : zSt) : Option (Int32 × zSt) := zck (zix (3 * S_12.1 0 10 + 2) 48) (zbd (fm_need (zpI S_12 4 (3 * S_12.1 0 10 + 2).toNatClampNeg (S_12.1 0 11)) 159) fun r_15 S_16 => zck (zbo r_15) (some (r_15, S_16)))
def ztL1 (S_11 : zSt) : Option (Int32 × zSt) := if S_11.1 0 14 = 3 then (zbd (fm_next0 S_11) fun _ S_20 => zbd (fm_any_c S_20) fun r_22 S_23 => if r_22 = 0 then some (0, S_23) else ztL2 S_23) else ztL2 S_11
theorem fm_aLine_eq (T : zSt) : fm_aLine T = if T.1 0 14 = 20 then (if T.1 0 10 = 16 then fm_bad T 3 else zbd (fm_next0 (zpI T 0 20 0)) fun _ S_3 => zck (zix (3 * S_3.1 0 10) 48) (zbd (fm_sumUp (zpI S_3 4 (3 * S_3.1 0 10).toNatClampNeg (S_3.1 0 11))) fun r_7 S_8 => if r_7 = 0 then some (0, S_8) else zck (zix (3 * S_8.1 0 10 + 1) 48) (ztL1 (zpI S_8 4 (3 * S_8.1 0 10 + 1).toNatClampNeg (S_8.1 0 11))))) else fm_bad T 1 := by
  unfold fm_aLine
  simp only [znm_q, fm_bad_z]
  rfl
section ztli
variable {t : Nat} {c v p r : Nat → Nat} {X0 M0 : zSt}
theorem zst3 (l : Nat) : (3 : Int32) * nI l = nI (3 * l) := by rw [show (3 : Int32) = nI 3 from rfl, pk_mul]
theorem ztL2_y (E : ztE t c v p r X0 M0) {T : zSt} {q m dp ln : Nat} (M : ztM c v p r M0 T q m dp ln) (hq : q ≤ t) (hl : ln < 16) (hc : c q = 59) : ∃ T' : zSt, ztL2 T = some (1, T') ∧ ztM c v p r M0 T' (r q) m dp ln ∧ T'.1 4 (3 * ln + 2) = nI m ∧ (∀ k, k < 3 * ln + 2 → T'.1 4 k = T.1 4 k) ∧ T'.1 5 = T.1 5 := by
  have M1 := M.c4 (3 * ln + 2) (nI m)
  obtain ⟨T', u1, u2, u3, u4⟩ := fm_nx E M1 hq
  refine ⟨T', ?_, u2, by rw [u3, zI_at], fun k hk => by rw [u3, zI_nk (by omega)], by rw [u4, zI_ne (by omega)]⟩
  have is : (zpI T 4 (3 * ln + 2) (nI m)).1 0 14 = 159 := (ztM.is E M1 hq 59 (by unfold zTk zSg; omega)).mpr hc
  unfold ztL2 fm_need
  rw [M.2.2.2.2.2.2.1, M.2.2.2.2.1, zst3, show nI (3 * ln) + (2 : Int32) = nI (3 * ln + 2) from by rw [show (2 : Int32) = nI 2 from rfl, nI_add], zix_n (show 3 * ln + 2 < 48 by omega) (by omega), zck_t, nI_clamp (by omega), if_pos is, u1, zbd_s, zbd_s]
  rfl
theorem ztL2_n (E : ztE t c v p r X0 M0) {T : zSt} {q m dp ln : Nat} (M : ztM c v p r M0 T q m dp ln) (hq : q ≤ t) (hl : ln < 16) (hc : c q ≠ 59) : ztUm M0 (ztL2 T) 1 (p q) := by
  have M1 := M.c4 (3 * ln + 2) (nI m)
  have is : ¬ (zpI T 4 (3 * ln + 2) (nI m)).1 0 14 = 159 := fun z => hc ((ztM.is E M1 hq 59 (by unfold zTk zSg; omega)).mp z)
  refine ztUm_m (fm_bd M1 1) (fun T' h => ?_)
  unfold ztL2 fm_need
  rw [M.2.2.2.2.2.2.1, M.2.2.2.2.1, zst3, show nI (3 * ln) + (2 : Int32) = nI (3 * ln + 2) from by rw [show (2 : Int32) = nI 2 from rfl, nI_add], zix_n (show 3 * ln + 2 < 48 by omega) (by omega), zck_t, nI_clamp (by omega), if_neg is, fm_bad_z, fm_bad_z]
  exact h
theorem zt_line (E : ztE t c v p r X0 M0) {S T : zSt} {i q n m ao dp ln : Nat} (Y : ztY X0 S n [] 0 ao 0 0 ln) (h12 : S.1 125 12 = nI q) (M : ztM c v p r M0 T q m dp ln) (hq : q ≤ t) (hi : i ≤ q) (hn : n ≤ q) (hm : m ≤ q) (hl : ln ≤ 16) (H : ztHd (S.1 126) (T.1 4) (T.1 5) ln n m) (hc : c q ≠ 301) : ztU X0 M0 (ztR i S) (fm_aLine T) ∨ ∃ (S' T' : zSt) (i' q' n' m' ao' : Nat), fm_aLine T = some (1, T') ∧ ztR i S = ztR i' S' ∧ ztY X0 S' n' [] 0 ao' 0 0 (ln + 1) ∧ S'.1 125 12 = nI q' ∧ ztM c v p r M0 T' q' m' 0 ln ∧ q' ≤ t ∧ i' ≤ q' ∧ n' ≤ q' ∧ m' ≤ q' ∧ ln < 16 ∧ ztHd (S'.1 126) (T'.1 4) (T'.1 5) (ln + 1) n' m' ∧ q < q' := by
  have t4 := E.t4
  have c4 := E.c4 hq
  have hr := E.rt hq
  have hr' := E.ro hq hc
  obtain ⟨S7, s1, s2, s3, s4, s5⟩ := ztrd (i := i) E Y h12 hi hq (by omega) (fun z => hc z.1)
  have is : T.1 0 14 = 20 ↔ c q = 256 := ztM.is E M hq 256 (by unfold zTk; omega)
  have j : fx_Reader_judge S7 = (if c q = 256 then (if nI ln < 16 then some (0, zpI (zpI (zpI S7 125 3 (nI (ln + 1))) 125 9 (nI 4)) 125 8 (nI 2)) else some (3, S7)) else some (1, S7)) := by
    rw [zj_0 s1.e_]
    unfold fx_Reader_judgeLine
    simp only [znm_q]
    rw [s2.2.2.1, s1.ln_, show (256 : Int32) = nI 256 from rfl, zif_n (by omega) (by omega), nI_1]
    rfl
  by_cases d' : ¬ c q = 256
  · have d := d'
    rw [if_neg d] at j
    refine Or.inl ⟨1, p q, s5 1 S7 (by omega) (by omega) j s1.o_ s1.l_ s2.2.1, ?_⟩
    rw [fm_aLine_eq, if_neg (fun z => d (is.mp z))]
    exact fm_bd M 1
  have d : c q = 256 := by omega
  rw [if_pos d] at j
  by_cases d16 : ln = 16
  · rw [d16, if_neg (by decide)] at j
    refine Or.inl ⟨3, p q, s5 3 S7 (by omega) (by omega) j s1.o_ s1.l_ s2.2.1, ?_⟩
    rw [fm_aLine_eq, if_pos (is.mpr d), M.2.2.2.2.2.2.1, d16, if_pos (by decide)]
    exact fm_bd M 3
  have l16 : ln < 16 := by omega
  rw [if_pos (show nI ln < (16 : Int32) from nI_lt (b := 16) l16 (by omega))] at j
  have Y8 := ((s1.sln (ln + 1)).sao 4).se 2
  have R1 : ztR i S = ztR (i + 1) _ := s4 _ j Y8.f_
  obtain ⟨T2, u1, u2, u3, u4⟩ := fm_nx E (M.dp 0) hq
  have M3 := u2.c4 (3 * ln) (nI m)
  have cd8 : (zpI (zpI (zpI S7 125 3 (nI (ln + 1))) 125 9 (nI 4)) 125 8 (nI 2)).1 126 = S.1 126 := by rw [zI_ne (by omega), zI_ne (by omega), zI_ne (by omega), s3]
  have I1 : ztI t c v p r X0 M0 (zpI (zpI (zpI S7 125 3 (nI (ln + 1))) 125 9 (nI 4)) 125 8 (nI 2)) (zpI T2 4 (3 * ln) (nI m)) (i + 1) (r q) n m [] 2 4 0 0 (ln + 1) ln := ⟨Y8, by rw [zI_nk (by omega), zI_nk (by omega), zI_nk (by omega)]; exact s2.1, M3, hr.2, by omega, by rw [List.length_nil]; omega, by omega⟩
  have al : fm_aLine T = zbd (fm_sumUp (zpI T2 4 (3 * ln) (nI m))) fun r_7 S_8 => if r_7 = 0 then some (0, S_8) else zck (zix (3 * S_8.1 0 10 + 1) 48) (ztL1 (zpI S_8 4 (3 * S_8.1 0 10 + 1).toNatClampNeg (S_8.1 0 11))) := by
    rw [fm_aLine_eq, if_pos (is.mpr d), M.2.2.2.2.2.2.1, if_neg (show ¬ nI ln = (16 : Int32) from fun z => d16 ((nI_eq (a := ln) (b := 16) (by omega) (by omega)).mp z)), show (zpI T 0 20 0) = zpI T 0 20 (nI 0) from rfl, u1, zbd_s, u2.2.2.2.2.2.2.1, u2.2.2.2.2.1, zst3, zix_n (show 3 * ln < 48 by omega) (by omega), zck_t, nI_clamp (by omega)]
  rcases zt_sum E I1 (A := 4) (Or.inl ⟨rfl, rfl⟩) (by omega) (Or.inl rfl) (by rw [List.length_nil]; omega) with U | ⟨S2, T4, i2, q2, n2, m2, P2, V2, x1, G2, x2, x3⟩
  · exact Or.inl (ztU_m U R1 (fun Z h => by rw [al, h, zbd_s, z_i0]))
  obtain ⟨g1, g2, g3, g4, g5, g6, g7, g8, g9, g10, g11⟩ := G2
  have M5 := g4.c4 (3 * ln + 1) (nI m2)
  have al2 : fm_aLine T = ztL1 (zpI T4 4 (3 * ln + 1) (nI m2)) := by
    rw [al, x1, zbd_s, z_i1, g4.2.2.2.2.2.2.1, g4.2.2.2.2.1, zst3, nI_1, zix_n (show 3 * ln + 1 < 48 by omega) (by omega), zck_t, nI_clamp (by omega)]
  have cc4 := E.c4 g5.1
  have hr2 := E.rt g5.1
  have nl := g10.1
  have ml := g11.1
  -- what the line's numbers are
  have f40 : ∀ k, k < 3 * ln → (zpI T4 4 (3 * ln + 1) (nI m2)).1 4 k = T.1 4 k := fun k hk => by rw [zI_nk (by omega), g8, zI_nk (by omega), u3, zI_ne (by omega)]
  have f41 : (zpI T4 4 (3 * ln + 1) (nI m2)).1 4 (3 * ln) = nI m := by rw [zI_nk (by omega), g8, zI_at]
  have f42 : (zpI T4 4 (3 * ln + 1) (nI m2)).1 4 (3 * ln + 1) = nI m2 := zI_at
  have f5 : ∀ k, k < 2 * m → (zpI T4 4 (3 * ln + 1) (nI m2)).1 5 k = T.1 5 k := fun k hk => by rw [zI_ne (by omega), g9 k hk, zI_ne (by omega), u4, zI_ne (by omega)]
  have hM5 : zMe (ztA (zpI T4 4 (3 * ln + 1) (nI m2))) m m2 3 V2 := ztA_c (fun k _ => by rw [zI_ne (by omega)]) g11
  obtain ⟨A7, b1, b2, b3, b4, b5⟩ := ztrd (i := i2) E g2 g3 (by omega) g5.1 (by omega) (fun z => by omega)
  have is3 : (zpI T4 4 (3 * ln + 1) (nI m2)).1 0 14 = 3 ↔ c q2 = 257 := ztM.is E M5 g5.1 257 (by unfold zTk; omega)
  rw [al2]
  by_cases d2 : c q2 = 257
  · have hr3 := E.ro g5.1 (by omega)
    obtain ⟨A8, k1, k2, k3, k4, k5⟩ := fx_waits (b := 0) (by omega) (Or.inl rfl) b1 (fun o ho => ⟨Nat.zero_le _, (g6 o ho).2⟩) (by omega) (by rw [List.append_nil]; omega)
    have ja : fx_Reader_judge A7 = some (0, zpI A8 125 8 (nI 1)) := by rw [zj_4w b1.e_ (by rw [b2.2.2.1, d2]), k1, zbd_s]
    have YA := k2.se 1
    have R2 : ztR i S = ztR (i2 + 1) (zpI A8 125 8 (nI 1)) := (R1.trans g1).trans (b4 _ ja YA.f_)
    obtain ⟨T6, w1, w2, w3, w4⟩ := fm_nx E M5 g5.1
    have cdA : (zpI A8 125 8 (nI 1)).1 126 = A8.1 126 := zI_ne (by omega)
    have hX1 : zXe (A8.1 126) n (n2 + P2.length) 3 V2 := g10.2 _ (fun k _ hk => by rw [k4 k hk, b3]) k3 (by omega)
    have I2 : ztI t c v p r X0 M0 (zpI A8 125 8 (nI 1)) T6 (i2 + 1) (r q2) (n2 + P2.length) m2 [] 1 4 0 0 (ln + 1) ln := ⟨YA, by rw [zI_nk (by omega), k5 12 (by omega)]; exact b2.1, w2, hr2.2, by omega, by rw [List.length_nil]; omega, by omega⟩
    have l1 : ztL1 (zpI T4 4 (3 * ln + 1) (nI m2)) = zbd (fm_any_c T6) fun r_22 S_23 => if r_22 = 0 then some (0, S_23) else ztL2 S_23 := by
      unfold ztL1
      rw [if_pos (is3.mpr d2), w1, zbd_s]
    rw [l1]
    rcases zt_anyc E _ T6 _ _ _ _ [] 4 0 (ln + 1) ln I2 (by omega) (Or.inl rfl) (by rw [List.length_nil]; omega) with U | ⟨S4, T7, i4, q4, n4, m4, P4, e4, a4, V4, y1, G4, y2, y3, y4, ⟨_, y5⟩, y6⟩
    · exact Or.inl (ztU_m U R2 (fun Z h => by rw [h, zbd_s, z_i0]))
    · obtain ⟨o1, o2, o3, o4, o5, o6, o7, o8, o9, o10, o11⟩ := G4
      rw [y1, zbd_s, z_i1]
      obtain ⟨e8, e0⟩ := ztV_8 y2
      have c44 := E.c4 o5.1
      have hr4 := E.rt o5.1
      obtain ⟨B7, q1, q2', q3, q4', q5⟩ := ztrd (i := i4) E o2 o3 (by omega) o5.1 e8 (fun z => by omega)
      have jc := zj_c q1.e_ q2'.2.2.1 c44 y2
      by_cases d5 : c q4 = 59
      · refine Or.inr ?_
        have hr5 := E.ro o5.1 (by omega)
        obtain ⟨B8, z1, z2, z3, z4, z5, z6⟩ := fx_ends q1 (fun o ho => (o6 o ho).2) (by omega) (by omega) (-257)
        have jb : fx_Reader_judge B7 = some (0, B8) := by rw [jc, zjc_59 (by rw [q2'.2.2.1, d5]) q1.br_, z1]
        obtain ⟨T9, v1, v2, v3, v4, v5⟩ := ztL2_y E o4 o5.1 l16 d5
        have nl4 := o10.1
        have ml4 := o11.1
        have fB : ∀ k, k < n2 + P2.length → B8.1 126 k = A8.1 126 k := fun k hk => by rw [z5 k (by omega), q3, o7 k hk, cdA]
        have w7 : ∀ k, k < 3 * ln + 2 → T9.1 4 k = (zpI T4 4 (3 * ln + 1) (nI m2)).1 4 k := fun k hk => by rw [v4 k hk, o8, w3]
        have w8 : ∀ k, k < 2 * m2 → T9.1 5 k = (zpI T4 4 (3 * ln + 1) (nI m2)).1 5 k := fun k hk => by rw [v5, o9 k hk, w4]
        refine ⟨B8, T9, i4 + 1, r q4, n4 + P4.length + 1, m4, a4, v1, (R2.trans o1).trans (q4' _ jb z2.f_), z2, (z6 12 (by omega)).trans q2'.1, v2, hr4.2, by omega, by omega, by omega, l16, ?_, by omega⟩
        refine ztHd_2 (n1 := n2 + P2.length) (m1 := m2) (V := V2) (C := V4) H (fun k hk => by rw [fB k (by omega), k4 k (by omega), b3, g7 k hk, cd8]) (fun k hk => by rw [w7 k (by omega)]; exact f40 k hk) (fun k hk => by rw [w8 k (by omega)]; exact f5 k hk) (by rw [w7 _ (by omega)]; exact f41) (by rw [w7 _ (by omega)]; exact f42) v3 (ztA_c w8 hM5) (zXe_c (fun k _ hk => fB k hk) hX1) (ztA_c (fun k _ => by rw [v5]) o11) ?_ y4 (by omega) z4
        exact o10.2 _ (fun k _ hk => by rw [z5 k hk, q3]) z3 (by omega)
      · refine Or.inl ⟨1, p q4, ?_, ztL2_n E o4 o5.1 l16 d5⟩
        rw [R2, o1]
        exact q5 1 B7 (by omega) (by omega) (by rw [jc, zjc_n q2'.2.2.1 c44 q1.br_ (by omega) y6 y5 (fun _ => rfl) (fun z => absurd z d5)]) q1.o_ q1.l_ q2'.2.1
  · have l1 : ztL1 (zpI T4 4 (3 * ln + 1) (nI m2)) = ztL2 (zpI T4 4 (3 * ln + 1) (nI m2)) := by
      unfold ztL1
      rw [if_neg (fun z => d2 (is3.mp z))]
    rw [l1]
    by_cases d5 : c q2 = 59
    · refine Or.inr ?_
      have hr3 := E.ro g5.1 (by omega)
      obtain ⟨B8, z1, z2, z3, z4, z5, z6⟩ := fx_ends b1 (fun o ho => (g6 o ho).2) (by omega) (by omega) (-59)
      have jb : fx_Reader_judge A7 = some (0, B8) := by rw [zj_4e b1.e_ (by rw [b2.2.2.1, d5]), z1]
      obtain ⟨T9, v1, v2, v3, v4, v5⟩ := ztL2_y E M5 g5.1 l16 d5
      refine ⟨B8, T9, i2 + 1, r q2, n2 + P2.length + 1, m2, 4, v1, (R1.trans g1).trans (b4 _ jb z2.f_), z2, (z6 12 (by omega)).trans b2.1, v2, hr2.2, by omega, by omega, by omega, l16, ?_, by omega⟩
      exact ztHd_1 (V := V2) H (fun k hk => by rw [z5 k (by omega), b3, g7 k hk, cd8]) (fun k hk => by rw [v4 k (by omega)]; exact f40 k hk) (fun k hk => by rw [v5]; exact f5 k hk) (by rw [v4 _ (by omega)]; exact f41) (by rw [v4 _ (by omega)]; exact f42) v3 (ztA_c (fun k _ => by rw [v5]) hM5) (g10.2 _ (fun k _ hk => by rw [z5 k hk, b3]) z3 (by omega)) (by omega) z4
    · refine Or.inl ⟨1, p q2, ?_, ztL2_n E M5 g5.1 l16 d5⟩
      rw [R1, g1]
      exact b5 1 A7 (by omega) (by omega) (zj_4n cc4 b1.e_ b2.2.2.1 x2 d2 d5) b1.o_ b1.l_ b2.2.1
end ztli
