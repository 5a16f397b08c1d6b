/-! round -/
theorem zsw_b {o : Nat → Nat} {n i : Nat} (hi : i + 1 < n) (ho : ∀ k, k < n → o k < n) : ∀ k, k < n → zsw o i k < n := fun k hk => by
  unfold zsw
  by_cases c : k = i
  · rw [if_pos c]; exact ho _ hi
  · rw [if_neg c]
    by_cases d : k = i + 1
    · rw [if_pos d]; exact ho _ (by omega)
    · rw [if_neg d]; exact ho k hk
/-- the row is kept -/
theorem fm_L90_eq {T : zSt} {n r : Nat} {a1 : Int32} (hn : n ≤ 9) (em : T.1 1 4 = nI n) (hr : r ≤ 200) : ∃ Y : zSt, (∀ j : zSt → Option (Int32 × zSt), fm_round_L90 a1 (nI r) j zFU 0 T = j Y) ∧ (∀ k, k < n → Y.1 15 (9 * r + k) = T.1 11 k) ∧ (∀ k, (k < 9 * r ∨ 9 * r + 9 ≤ k) → Y.1 15 k = T.1 15 k) ∧ (∀ q, q ≠ 15 → Y.1 q = T.1 q) := by
  have key : ∀ (f i : Nat) (Z : zSt), i ≤ n → n < i + f → (∀ k, k < i → Z.1 15 (9 * r + k) = T.1 11 k) → (∀ k, (k < 9 * r ∨ 9 * r + 9 ≤ k) → Z.1 15 k = T.1 15 k) → (∀ q, q ≠ 15 → Z.1 q = T.1 q) → ∃ Y : zSt, (∀ j : zSt → Option (Int32 × zSt), fm_round_L90 a1 (nI r) j f (nI i) Z = j Y) ∧ (∀ k, k < n → Y.1 15 (9 * r + k) = T.1 11 k) ∧ (∀ k, (k < 9 * r ∨ 9 * r + 9 ≤ k) → Y.1 15 k = T.1 15 k) ∧ (∀ q, q ≠ 15 → Y.1 q = T.1 q) := by
    intro f
    induction f with
    | zero => intro i Z a b; omega
    | succ f ih =>
      intro i Z h1 h2 h3 h4 h5
      by_cases e : i = n
      · subst e
        exact ⟨Z, fun j => by rw [fm_round_L90, h5 1 (by omega), em, if_pos (nI_le (Nat.le_refl _) (by omega))], h3, h4, h5⟩
      obtain ⟨Y, y1, y2⟩ := ih (i + 1) (zpI Z 15 (9 * r + i) (T.1 11 i)) (by omega) (by omega) (fun k hk => by
        by_cases c : k = i
        · subst c; rw [zI_at]
        · rw [zI_nk (by omega)]; exact h3 k (by omega)) (fun k hk => by rw [zI_nk (by omega)]; exact h4 k hk) (fun q hq => by rw [zI_ne hq]; exact h5 q hq)
      refine ⟨Y, fun j => ?_, y2⟩
      rw [fm_round_L90, h5 1 (by omega), em, if_neg (nI_ge (by omega) (by omega)), zix_n (show i < 9 by omega) (by omega), zck_t, show (9 : Int32) * nI r + nI i = nI (9 * r + i) from by rw [show (9 : Int32) = nI 9 from rfl, pk_mul, nI_add], zix_n (show 9 * r + i < 1809 by omega) (by omega), zck_t, znm_q, znm_q, nI_clamp (n := 9 * r + i) (by omega), nI_clamp (n := i) (by omega), h5 11 (by omega), nI_1]
      exact y1 j
  obtain ⟨Y, y1, y2⟩ := key zFU 0 T (by omega) (by unfold zFU; omega) (fun k hk => by omega) (fun _ _ => rfl) (fun _ _ => rfl)
  exact ⟨Y, fun j => by rw [← nI_0]; exact y1 j, y2⟩
theorem fm_L18_eq {T : zSt} {n : Nat} {a1 : Int32} (hn : n ≤ 9) (em : T.1 1 4 = nI n) : ∃ Y : zSt, (∀ j : zSt → Option (Int32 × zSt), fm_round_L18 a1 j zFU 0 T = j Y) ∧ (∀ k, k < n → Y.1 11 k = T.1 9 k) ∧ (∀ q, q ≠ 11 → Y.1 q = T.1 q) := by
  have key : ∀ (f i : Nat) (Z : zSt), i ≤ n → n < i + f → (∀ k, k < i → Z.1 11 k = T.1 9 k) → (∀ q, q ≠ 11 → Z.1 q = T.1 q) → ∃ Y : zSt, (∀ j : zSt → Option (Int32 × zSt), fm_round_L18 a1 j f (nI i) Z = j Y) ∧ (∀ k, k < n → Y.1 11 k = T.1 9 k) ∧ (∀ q, q ≠ 11 → Y.1 q = T.1 q) := by
    intro f
    induction f with
    | zero => intro i Z a b; omega
    | succ f ih =>
      intro i Z h1 h2 h3 h5
      by_cases e : i = n
      · subst e
        exact ⟨Z, fun j => by rw [fm_round_L18, h5 1 (by omega), em, if_pos (nI_le (Nat.le_refl _) (by omega))], h3, h5⟩
      obtain ⟨Y, y1, y2⟩ := ih (i + 1) (zpI Z 11 i (T.1 9 i)) (by omega) (by omega) (fun k hk => by
        by_cases c : k = i
        · subst c; rw [zI_at]
        · rw [zI_nk c]; exact h3 k (by omega)) (fun q hq => by rw [zI_ne hq]; exact h5 q hq)
      refine ⟨Y, fun j => ?_, y2⟩
      rw [fm_round_L18, h5 1 (by omega), em, if_neg (nI_ge (by omega) (by omega)), zix_n (show i < 9 by omega) (by omega), zck_t, zck_t, znm_q, znm_q, nI_clamp (n := i) (by omega), h5 9 (by omega), nI_1]
      exact y1 j
  obtain ⟨Y, y1, y2⟩ := key zFU 0 T (by omega) (by unfold zFU; omega) (fun k hk => by omega) (fun _ _ => rfl)
  exact ⟨Y, fun j => by rw [← nI_0]; exact y1 j, y2⟩
/-- was it so before? -/
theorem zseen {S T : zSt} {n r : Nat} {o : Nat → Nat} {w : Nat → Nat → Nat} {a1 : Int32} (hn : n ≤ 9) (em : T.1 1 4 = nI n) (hr : r ≤ 200) (ho : ∀ k, k < n → T.1 11 k = nI (o k) ∧ o k < n) (hw : ∀ e, e < r → ∀ k, k < n → T.1 15 (9 * e + k) = nI (w e k) ∧ w e k < n) (hx : ∀ e, e < r → S.2 137 e = lN (znu (w e) n)) (hxr : S.2 137 r = lN (znu o n)) :
    (∃ e, e < r ∧ (∀ j : zSt → Option (Unit × zSt), fx_Lineup_goRound_L39 (nI r) j zFU 0 S = some ((), zpI S 128 6 (nI r - nI e))) ∧ (∀ (j88 : zSt → Option (Int32 × zSt)) (j70 : Int32 → Int32 → zSt → Option (Int32 × zSt)), fm_round_L57 a1 (nI r) j88 j70 zFU 0 T = j70 (nI r) (nI e) T)) ∨
    ((∀ j : zSt → Option (Unit × zSt), fx_Lineup_goRound_L39 (nI r) j zFU 0 S = j S) ∧ (∀ (j88 : zSt → Option (Int32 × zSt)) (j70 : Int32 → Int32 → zSt → Option (Int32 × zSt)), fm_round_L57 a1 (nI r) j88 j70 zFU 0 T = j88 T)) := by
  have p9 : 10 ^ n ≤ 10 ^ 9 := Nat.pow_le_pow_right (by omega) hn
  have no := znu_lt (o := o) n (fun k hk => by have := (ho k hk).2; omega)
  have key : ∀ (f e : Nat), e ≤ r → r < e + f → (∃ e', e' < r ∧ (∀ j : zSt → Option (Unit × zSt), fx_Lineup_goRound_L39 (nI r) j f (nI e) S = some ((), zpI S 128 6 (nI r - nI e'))) ∧ (∀ (j88 : zSt → Option (Int32 × zSt)) (j70 : Int32 → Int32 → zSt → Option (Int32 × zSt)), fm_round_L57 a1 (nI r) j88 j70 f (nI e) T = j70 (nI r) (nI e') T)) ∨ ((∀ j : zSt → Option (Unit × zSt), fx_Lineup_goRound_L39 (nI r) j f (nI e) S = j S) ∧ (∀ (j88 : zSt → Option (Int32 × zSt)) (j70 : Int32 → Int32 → zSt → Option (Int32 × zSt)), fm_round_L57 a1 (nI r) j88 j70 f (nI e) T = j88 T)) := by
    intro f
    induction f with
    | zero => intro e a b; omega
    | succ f ih =>
      intro e h1 h2
      by_cases er : e = r
      · subst er
        exact Or.inr ⟨fun j => by rw [fx_Lineup_goRound_L39, if_pos (nI_le (Nat.le_refl _) (by omega))], fun j88 j70 => by rw [fm_round_L57, if_pos (nI_le (Nat.le_refl _) (by omega))]⟩
      have he : e < r := by omega
      have ne := znu_lt (o := w e) n (fun k hk => by have := (hw e he k hk).2; omega)
      have ir := fm_isRow_eq (e := e) (w := w e) hn em (by omega) ho (hw e he)
      have sx : ∀ j, fx_Lineup_goRound_L39 (nI r) j (f + 1) (nI e) S = if znu (w e) n = znu o n then some ((), zpI S 128 6 (nI r - nI e)) else fx_Lineup_goRound_L39 (nI r) j f (nI (e + 1)) S := fun j => by
        rw [fx_Lineup_goRound_L39, if_neg (nI_ge he (by omega)), zix_n (show e < 201 by omega) (by omega), zck_t, zix_n (show r < 201 by omega) (by omega), zck_t, nI_clamp (n := e) (by omega), nI_clamp (n := r) (by omega), hx e he, hxr, lg_lN (by omega) (by omega), znm_q, znm_q, nI_1]
        by_cases c : znu (w e) n = znu o n
        · rw [if_neg (show ¬ znu (w e) n < znu o n by omega), if_pos c, if_pos rfl, if_pos c]
        · by_cases d : znu (w e) n < znu o n
          · rw [if_pos d, if_neg (show ¬ (-1 : Int32) = 0 by decide), if_neg c]
          · rw [if_neg d, if_neg c, if_neg (show ¬ (1 : Int32) = 0 by decide), if_neg c]
      have sm : ∀ (j88 : zSt → Option (Int32 × zSt)) (j70 : Int32 → Int32 → zSt → Option (Int32 × zSt)), fm_round_L57 a1 (nI r) j88 j70 (f + 1) (nI e) T = if znu (w e) n = znu o n then j70 (nI r) (nI e) T else fm_round_L57 a1 (nI r) j88 j70 f (nI (e + 1)) T := fun j88 j70 => by
        rw [fm_round_L57, if_neg (nI_ge he (by omega)), ir, zbd_s, znm_q, nI_1]
        by_cases c : znu (w e) n = znu o n
        · rw [if_pos c, if_neg (by decide), if_pos c]
        · rw [if_neg c, if_pos rfl, if_neg c]
      by_cases c : znu (w e) n = znu o n
      · exact Or.inl ⟨e, he, fun j => by rw [sx, if_pos c], fun j88 j70 => by rw [sm, if_pos c]⟩
      · rcases ih (e + 1) (by omega) (by omega) with ⟨e', k1, k2, k3⟩ | ⟨k2, k3⟩
        · exact Or.inl ⟨e', k1, fun j => by rw [sx, if_neg c]; exact k2 j, fun j88 j70 => by rw [sm, if_neg c]; exact k3 j88 j70⟩
        · exact Or.inr ⟨fun j => by rw [sx, if_neg c]; exact k2 j, fun j88 j70 => by rw [sm, if_neg c]; exact k3 j88 j70⟩
  exact key zFU 0 (by omega) (by unfold zFU; omega)
theorem zrounds {a : Nat → Int32} {n : Nat} (B : zBd a n) {X M : zSt} {a1 : Int32} {J1 : zSt → Option (Int32 × zSt)} {J2 : Int32 → zSt → Option (Int32 × zSt)} {J3 : Int32 → Int32 → zSt → Option (Int32 × zSt)} (h1 : ∀ S, J1 S = some (if a1 = 0 then -1 else 0, S)) (h2 : ∀ x S, J2 x S = some (if a1 = 0 then x else 0, S)) (h3 : ∀ x y S, J3 x y S = some (if a1 = 0 then -1 else x - y, S)) : ∀ (f r : Nat) (S T : zSt) (o : Nat → Nat) (w : Nat → Nat → Nat), r ≤ 201 → 201 < r + f → zOx S a n → S.1 128 5 = -1 → S.1 128 6 = 0 → (∀ k, k < n → S.1 129 k = nI (o k) ∧ T.1 11 k = nI (o k) ∧ o k < n) → (∀ e, e < r → (∀ k, k < n → T.1 15 (9 * e + k) = nI (w e k) ∧ w e k < n) ∧ S.2 137 e = lN (znu (w e) n)) → T.1 1 = a → (∀ q, q < 128 ∨ 138 ≤ q → S.1 q = X.1 q) → (∀ q, q ≠ 137 → S.2 q = X.2 q) → (∀ q, q ≠ 0 → q < 7 → T.1 q = M.1 q) → (∀ k, k ≠ 24 → T.1 0 k = M.1 0 k) → ∃ (S' T' : zSt) (ch ci : Int32), fx_Lineup_goRound_L20 f (nI r) S = some ((), S') ∧ S'.1 128 5 = ch ∧ S'.1 128 6 = ci ∧ fm_round_L48 a1 J1 J2 J3 f (nI r) T = some (if a1 = 0 then ch else ci, T') ∧ (∀ q, q < 128 ∨ 138 ≤ q → S'.1 q = X.1 q) ∧ (∀ q, q ≠ 137 → S'.2 q = X.2 q) ∧ (∀ q, q ≠ 0 → q < 7 → T'.1 q = M.1 q) ∧ (∀ k, k ≠ 24 → T'.1 0 k = M.1 0 k) := by
  have hn := B.n9
  intro f
  induction f with
  | zero => intro r S T o w a b; omega
  | succ f ih =>
    intro r S T o w hr hf hS s5 s6 ho hw hT fx fx2 fm fm0
    rw [fx_Lineup_goRound_L20, fm_round_L48]
    by_cases er : r = 201
    · subst er
      rw [if_pos (by decide), if_pos (by decide), h1]
      exact ⟨S, T, -1, 0, rfl, s5, s6, rfl, fx, fx2, fm, fm0⟩
    have em : T.1 1 4 = nI n := by rw [hT]; exact B.a4
    rw [if_neg (show ¬ (200 : Int32) < nI r from nI_nlt (a := 200) (by omega) (by omega)), if_neg (show ¬ (200 : Int32) < nI r from nI_nlt (a := 200) (by omega) (by omega)), fx_num_eq hn hS.ct (fun k hk => ⟨(ho k hk).1, (ho k hk).2.2⟩), zbd_s, zix_n (show r < 201 by omega) (by omega), zck_t]
    simp only [znm_q]
    rw [nI_clamp (n := r) (by omega)]
    have l137 : ∀ e, (zpL S 137 r (lN (znu o n))).2 137 e = if e = r then lN (znu o n) else S.2 137 e := fun e => by rw [z3, if_pos rfl]
    rcases zseen (S := zpL S 137 r (lN (znu o n))) (T := T) (r := r) (o := o) (w := w) (a1 := a1) hn em (by omega) (fun k hk => ⟨(ho k hk).2.1, (ho k hk).2.2⟩) (fun e he => (hw e he).1) (fun e he => by rw [l137, if_neg (by omega)]; exact (hw e he).2) (by rw [l137, if_pos rfl]) with ⟨e, he, k1, k2⟩ | ⟨k1, k2⟩
    · rw [k1, k2, h3]
      exact ⟨_, T, -1, nI r - nI e, rfl, by rw [zI_nk (by omega)]; exact s5, zI_at, rfl, fun q hq => by rw [zI_ne (by omega)]; exact fx q hq, fun q hq => by show (zpL S 137 r (lN (znu o n))).2 q = X.2 q; rw [zL_ne hq]; exact fx2 q hq, fm, fm0⟩
    rw [k1, k2]
    obtain ⟨Y, y1, y2, y3, y4⟩ := fm_L90_eq (T := T) (r := r) (a1 := a1) hn em (by omega)
    rw [y1]
    have hS' : zOx (zpL S 137 r (lN (znu o n))) a n := hS.c (fun q _ => rfl)
    obtain ⟨P, p1, p2, p3⟩ := fx_first_eq (o := o) B hS' (fun k hk => ⟨(ho k hk).1, (ho k hk).2.2⟩)
    obtain ⟨Q, q1, q2, q3⟩ := fm_first_eq (S := Y) (o := o) B (by rw [y4 1 (by omega)]; exact hT) (fun k hk => by rw [y4 11 (by omega)]; exact ⟨(ho k hk).2.1, (ho k hk).2.2⟩)
    have pf : ∀ q, q ≠ 135 → P.1 q = S.1 q := fun q hq => p1 q hq
    have pf2 : ∀ q, q ≠ 137 → P.2 q = S.2 q := fun q hq => by rw [p2, zL_ne hq]
    have qf : ∀ q, q ≠ 0 → q ≠ 12 → q ≠ 15 → Q.1 q = T.1 q := fun q a b c => by rw [q1 q a b, y4 q c]
    have qf0 : ∀ k, k ≠ 24 → Q.1 0 k = T.1 0 k := fun k hk => by rw [q2 k hk, y4 0 (by omega)]
    rcases p3 with ⟨f1, f2⟩ | ⟨i, i1, f1, f2, f3⟩
    · have g1 : fm_firstChange Y = some (-1, Q) := by
        rcases q3 with ⟨g1, _⟩ | ⟨i', j1, _, j2, _⟩
        · exact g1
        · rw [f2 i' j1] at j2; cases j2
      rw [f1, g1, zbd_s, zbd_s, if_pos rfl, if_pos rfl, h2]
      exact ⟨_, Q, nI r, 0, rfl, zI_at, by rw [zI_nk (by omega), pf 128 (by omega)]; exact s6, rfl, fun q hq => by rw [zI_ne (by omega), pf q (by omega)]; exact fx q hq, fun q hq => by show P.2 q = X.2 q; rw [pf2 q hq]; exact fx2 q hq, fun q a b => by rw [qf q a (by omega) (by omega)]; exact fm q a b, fun k hk => by rw [qf0 k hk]; exact fm0 k hk⟩
    · have g1 : fm_firstChange Y = some (nI i, Q) := by
        rcases q3 with ⟨_, g2⟩ | ⟨i', j1, j2, j3, j4⟩
        · rw [g2 i i1] at f2; cases f2
        · have : i' = i := by
            rcases Nat.lt_trichotomy i' i with d | d | d
            · rw [f3 i' d] at j3; cases j3
            · exact d
            · rw [j4 i d] at f2; cases f2
          rw [this] at j2
          exact j2
      obtain ⟨C, c1, c2, c3, c4⟩ := fx_chg_eq (S := P) (i := i) (by omega)
      obtain ⟨D, d1, d2, d3⟩ := fm_exch_eq (S := Q) (i := i) (by omega)
      rw [f1, g1, zbd_s, zbd_s, if_neg (nI_m1 (by omega)), if_neg (nI_m1 (by omega)), c1, d1, zbd_s, zbd_s, nI_1]
      have cf : ∀ q, q ≠ 129 → q ≠ 135 → C.1 q = S.1 q := fun q a b => by rw [c3 q a, pf q b]
      have df : ∀ q, q ≠ 0 → q ≠ 11 → q ≠ 12 → q ≠ 15 → D.1 q = T.1 q := fun q a b c d => by rw [d3 q b, qf q a c d]
      refine ih (r + 1) C D (zsw o i) (fun e k => if e = r then o k else w e k) (by omega) (by omega) (hS.c (fun q hq => cf q (by omega) (by omega))) (by rw [cf 128 (by omega) (by omega)]; exact s5) (by rw [cf 128 (by omega) (by omega)]; exact s6) (fun k hk => ?_) (fun e he => ⟨fun k hk => ?_, ?_⟩) (by rw [df 1 (by omega) (by omega) (by omega) (by omega)]; exact hT) (fun q hq => by rw [cf q (by omega) (by omega)]; exact fx q hq) (fun q hq => by rw [c4, pf2 q hq]; exact fx2 q hq) (fun q a b => by rw [df q a (by omega) (by omega) (by omega)]; exact fm q a b) (fun k hk => by rw [d3 0 (by omega), qf0 k hk]; exact fm0 k hk)
      · refine ⟨?_, ?_, zsw_b i1 (fun k hk => (ho k hk).2.2) k hk⟩
        · rw [c2 k, pf 129 (by omega)]
          unfold zsw
          by_cases z : k = i
          · rw [if_pos z, if_pos z]; exact (ho _ i1).1
          · rw [if_neg z, if_neg z]
            by_cases z2 : k = i + 1
            · rw [if_pos z2, if_pos z2]; exact (ho i (by omega)).1
            · rw [if_neg z2, if_neg z2]; exact (ho k hk).1
        · rw [d2 k, qf 11 (by omega) (by omega) (by omega)]
          unfold zsw
          by_cases z : k = i
          · rw [if_pos z, if_pos z]; exact (ho _ i1).2.1
          · rw [if_neg z, if_neg z]
            by_cases z2 : k = i + 1
            · rw [if_pos z2, if_pos z2]; exact (ho i (by omega)).2.1
            · rw [if_neg z2, if_neg z2]; exact (ho k hk).2.1
      · have dY : D.1 15 = Y.1 15 := by rw [d3 15 (by omega), q1 15 (by omega) (by omega)]
        rw [dY]
        by_cases z : e = r
        · rw [if_pos z, z, y2 k hk]
          exact ⟨(ho k hk).2.1, (ho k hk).2.2⟩
        · rw [if_neg z, y3 _ (by omega)]
          exact (hw e (by omega)).1 k hk
      · rw [c4, p2, l137]
        by_cases z : e = r
        · rw [if_pos z]
          have : (fun k => if e = r then o k else w e k) = o := by funext k; rw [if_pos z]
          rw [this]
        · rw [if_neg z]
          have : (fun k => if e = r then o k else w e k) = w e := by funext k; rw [if_neg z]
          rw [this]
          exact (hw e (by omega)).2
theorem zp_round : zo_round (zInv zRR) := by
  intro X M hI a1
  obtain ⟨t, n, m, c, o, hT, hF, hC, hU, hK⟩ := id hI
  obtain ⟨hH, hTi, hS, hR, hL, hRi⟩ := id hC
  have B := zBd_of hH hTi hS
  have hn : n ≤ 9 := hH.2.2.1
  have ex : X.1 4 0 = nI n := hH.1
  have em : M.1 1 4 = nI n := hH.2.1
  by_cases hw : a1 < 0 ∨ (1 : Int32) < a1
  · have w0 : ¬ a1 = 0 := fun e => by rw [e] at hw; exact absurd hw (by decide)
    have w1 : ¬ a1 = 1 := fun e => by rw [e] at hw; exact absurd hw (by decide)
    unfold fx_round fm_round
    rw [znm_q, if_neg w0, if_neg w1, fm_isIn_lo hw, zbd_s, z_i0]
    exact ⟨_, _, _, rfl, rfl, hI⟩
  generalize hX1 : zpI (zpI X 128 5 (-1)) 128 6 0 = X1
  have x1 : ∀ q, q ≠ 128 → X1.1 q = X.1 q := fun q hq => by rw [← hX1, zI_ne hq, zI_ne hq]
  have x1l : X1.2 = X.2 := by rw [← hX1]; rfl
  have hH1 : rH X1.1 3 (M.1 1) n := rH_c (fun q a b => x1 q (by omega)) rfl (fun _ _ _ _ _ => rfl) (fun _ _ _ => rfl) hH
  have hT1 : rT X1.1 11 (M.1 1) n := rT_c (fun q a b => x1 q (by omega)) (fun _ _ => rfl) (fun _ _ _ _ _ => rfl) hTi
  obtain ⟨S, T, od, s1, s2, s3, s4, s5, s6, s7⟩ := zstand hH1 hT1 (by rw [x1 20 (by omega), x1 21 (by omega)]; exact hR)
  have sq : ∀ q, q ≠ 128 → q ≠ 129 → q ≠ 131 → q ≠ 132 → q ≠ 133 → S.1 q = X.1 q := fun q e a b c d => by rw [s5 q a b c d, x1 q e]
  obtain ⟨W, w1, w2, w3, w4⟩ := fx_weigh_eq (X := S) B (by rw [sq 4 (by omega) (by omega) (by omega) (by omega) (by omega)]; exact ex) (fun h hh => by rw [sq 5 (by omega) (by omega) (by omega) (by omega) (by omega)]; exact (hH.2.2.2.1 h hh).1) (fun h hh => by rw [sq 12 (by omega) (by omega) (by omega) (by omega) (by omega)]; exact (hTi.2.2.2.2.2.1 h hh).1)
  have wq : ∀ q, (q < 128 ∨ 138 ≤ q) → W.1 q = X.1 q := fun q hq => by rw [w3 q (by omega), sq q (by omega) (by omega) (by omega) (by omega) (by omega)]
  have OW : zOx W (M.1 1) n := zOx_of B hH hS w2 (fun q hq => wq q (by omega))
  have tm : T.1 1 = M.1 1 := s7 1 (by omega) (by omega) (by omega) (by omega)
  obtain ⟨U, u1, u2, u3⟩ := fm_L18_eq (T := T) (a1 := a1) hn (by rw [tm]; exact em)
  have uq : ∀ q, q < 7 → U.1 q = M.1 q := fun q hq => by rw [u3 q (by omega), s7 q (by omega) (by omega) (by omega) (by omega)]
  have w128 : ∀ k, W.1 128 k = X1.1 128 k := fun k => by rw [w3 128 (by omega), s5 128 (by omega) (by omega) (by omega) (by omega)]
  obtain ⟨S', T', ch, ci, k1, k2, k3, k4, k5, k6, k7, k8⟩ := zrounds (a := M.1 1) B (X := X) (M := M) (a1 := a1) (J1 := fun S_8 => if a1 = 0 then some (-1, S_8) else some (0, S_8)) (J2 := fun x_12 S_13 => if a1 = 0 then some (x_12, S_13) else some (0, S_13)) (J3 := fun x_17 x_18 S_19 => if a1 = 0 then some (-1, S_19) else some (x_17 - x_18, S_19)) (fun S => by by_cases e : a1 = 0 <;> simp [e]) (fun x S => by by_cases e : a1 = 0 <;> simp [e]) (fun x y S => by by_cases e : a1 = 0 <;> simp [e]) zFU 0 W U od (fun _ _ => 0) (by omega) (by unfold zFU; omega) OW (by rw [w128, ← hX1, zI_nk (by omega), zI_at]) (by rw [w128, ← hX1, zI_at]) (fun k hk => ⟨by rw [w3 129 (by omega)]; exact (s4 k hk).1, by rw [u2 k hk]; exact (s4 k hk).2, s3.1 k hk⟩) (fun e he => by omega) (uq 1 (by omega)) wq (fun q _ => by rw [w4, s6, x1l]) (fun q _ hq => uq q hq) (fun k _ => by rw [uq 0 (by omega)])
  rw [nI_0] at k1 k4
  have gr : fx_Lineup_goRound X = some ((), S') := by
    unfold fx_Lineup_goRound
    rw [znm_q, znm_q, hX1, s1, zbd_s, w1, zbd_s, k1]
  have lo : fm_laysOrder M 0 = some ((), T) := by
    unfold fm_laysOrder
    rw [em, znm_q, znm_q, s2]
    simp only [znm_q]
    rw [if_pos trivial]
  have inv : zInv zRR S' T' := zI_same zRR_ok (fun q _ b => k5 q (by omega)) ⟨k6 _ (by omega), k6 _ (by omega)⟩ ⟨by rw [k5 _ (by omega)], by rw [k5 _ (by omega)], by rw [k5 _ (by omega)], by rw [k5 _ (by omega)]⟩ (fun q hq => k7 q (by omega) (by omega)) (fun k hk => k8 k (by omega)) (Or.inl ⟨by rw [k5 _ (by omega)], k8 12 (by omega)⟩) hI
  have fm : fm_round M a1 = some (if a1 = 0 then ch else ci, T') := by
    unfold fm_round
    rw [fm_isIn_in (fun q => hw (Or.inl q)) (fun q => hw (Or.inr q)), zbd_s, z_i1, lo, zbd_s]
    simp only [znm_q]
    rw [u1]
    exact k4
  have fx : fx_round X a1 = some (if a1 = 0 then ch else ci, S') := by
    unfold fx_round
    simp only [znm_q]
    rw [gr, zbd_s, k2, k3]
    rcases z01 hw with rfl | rfl
    · rw [if_pos rfl, if_pos rfl, if_pos rfl]
    · rw [if_neg (show ¬ (1 : Int32) = 0 by decide), if_pos rfl, if_neg (show ¬ (1 : Int32) = 0 by decide), if_neg (show ¬ (1 : Int32) = 0 by decide)]
  rw [fx, fm]
  exact ⟨_, _, _, rfl, rfl, inv⟩
