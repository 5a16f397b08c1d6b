/-! the order of the day, and the rounds -/
theorem ztoday {X M : zSt} {n : Nat} (hH : rH X.1 3 (M.1 1) n) (hT : rT X.1 11 (M.1 1) n) (hR : X.1 20 2 = M.1 1 590 ∧ zRR (X.1 21) (X.1 20 1) (X.1 20 2) (M.1 1)) : ∃ (S' T' : zSt) (o : Nat → Nat), fx_Lineup_standForToday X = some ((), S') ∧ fm_laysOrder M 1 = some ((), T') ∧ zPm o n ∧ (∀ k, k < n → S'.1 129 k = nI (o k) ∧ T'.1 9 k = nI (o k)) ∧ (∀ q, q ≠ 129 → q ≠ 131 → q ≠ 132 → q ≠ 133 → S'.1 q = X.1 q) ∧ S'.2 = X.2 ∧ (∀ q, q ≠ 7 → q ≠ 8 → q ≠ 9 → q ≠ 10 → T'.1 q = M.1 q) := by
  have hn : n ≤ 9 := hH.2.2.1
  have em : M.1 1 4 = nI n := hH.2.1
  obtain ⟨S, T, o, s1, s2, s3, s4, s5, s6, s7⟩ := zstand hH hT hR
  have hT' : rT S.1 11 (M.1 1) n := rT_c (fun q a b => s5 q (by omega) (by omega) (by omega) (by omega)) (fun _ _ => rfl) (fun _ _ _ _ _ => rfl) hT
  have ex : S.1 4 0 = nI n := by rw [s5 4 (by omega) (by omega) (by omega) (by omega)]; exact hH.1
  have t1 : T.1 1 = M.1 1 := s7 1 (by omega) (by omega) (by omega) (by omega)
  have hx : ∀ c, fx_Lineup_standForToday X = (if c = 0 then some ((), S) else zbd (fx_Lineup_fewestMondays S) fun r_8 S_9 => zbd (fx_Lineup_putFirst S_9 r_8) fun _ S_12 => some ((), S_12)) ∨ c ≠ (if M.1 1 5 - M.1 1 5 / 7 * 7 = 0 then (1 : Int32) else 0) := fun c => by
    by_cases e : c = (if M.1 1 5 - M.1 1 5 / 7 * 7 = 0 then (1 : Int32) else 0)
    · left
      unfold fx_Lineup_standForToday
      rw [s1, zbd_s, fx_mon_eq hT', zbd_s, znm_q, ← e]
    · exact Or.inr e
  have hm : fm_laysOrder M 1 = if M.1 1 5 - M.1 1 5 / 7 * 7 = 0 then (if nI n = 0 then some ((), T) else fm_laysOrder_L118 (nI n) (fun x_4 S_5 => fm_laysOrder_L154 x_4 (fun x_6 S_7 => fm_laysOrder_L175 x_4 zFU x_6 S_7) zFU 0 S_5) zFU 0 1 T) else some ((), T) := by
    unfold fm_laysOrder
    rw [em, znm_q, znm_q, s2]
    simp only [znm_q]
    rw [if_neg (show ¬ (1 : Int32) = 0 by decide), t1]
  by_cases mon : M.1 1 5 - M.1 1 5 / 7 * 7 = 0
  · rw [if_pos mon] at hm
    have hx1 := (hx 1).resolve_right (fun q => q (by rw [if_pos mon]))
    rw [if_neg (show ¬ (1 : Int32) = 0 by decide)] at hx1
    by_cases n0 : n = 0
    · subst n0
      have fe : fx_Lineup_fewestMondays S = some (0, S) := by
        unfold fx_Lineup_fewestMondays zFU
        rw [fx_Lineup_fewestMondays_L4, ex, if_pos (by decide)]
      have pf : fx_Lineup_putFirst S 0 = some ((), S) := by
        unfold fx_Lineup_putFirst zFU
        rw [znm_q, fx_Lineup_putFirst_L2, ex, if_pos (by decide), if_neg (by decide)]
      refine ⟨S, T, o, by rw [hx1, fe, zbd_s, pf, zbd_s], by rw [hm, if_pos (show nI 0 = 0 from rfl)], s3, s4, s5, s6, s7⟩
    · obtain ⟨v, v1, v2, v3⟩ := zfew (S := S) (T := T) hn (by omega) ex (fun h hh => by rw [t1]; exact (hT'.2.2.2.2.2.1 h hh).2.2.2.2.1)
      obtain ⟨S', T', o', f1, f2, f3, f4, f5, f6, f7⟩ := zfront hn ex v1 s3 s4
      refine ⟨S', T', o', by rw [hx1, v2, zbd_s, f1, zbd_s], by rw [hm, if_neg (nI_ne0 (by omega) (by omega)), v3, f2], f3, f4, fun q a b c d => by rw [f5 q a, s5 q a b c d], by rw [f6, s6], fun q a b c d => by rw [f7 q c, s7 q a b c d]⟩
  · rw [if_neg mon] at hm
    have hx1 := (hx 0).resolve_right (fun q => q (by rw [if_neg mon]))
    rw [if_pos rfl] at hx1
    exact ⟨S, T, o, hx1, hm, s3, s4, s5, s6, s7⟩
theorem zp_order : zo_order (zInv zRR) := by
  intro X M hI a1
  obtain ⟨t, n, m, c, o, hT, hF, hC, hU, hK⟩ := id hI
  obtain ⟨hH, hTi, hS, hR, hL, hRi⟩ := id hC
  have hn : n ≤ 9 := hH.2.2.1
  have ex : X.1 4 0 = nI n := hH.1
  have em : M.1 1 4 = nI n := hH.2.1
  unfold fx_order fm_order
  by_cases ho : a1 < 0 ∨ nI n ≤ a1
  · rw [fx_has_lo ex ho, fm_has_lo em hn ho, zbd_s, zbd_s, z_i0, z_i0]
    exact ⟨_, _, _, rfl, rfl, hI⟩
  obtain ⟨h, hh, rfl⟩ := zpos (by omega) ho
  obtain ⟨S', T', o', s1, s2, s3, s4, s5, s6, s7⟩ := ztoday hH hTi hR
  rw [fx_has_in ex hn hh, fm_has_in em hn hh, zbd_s, zbd_s, z_i1, z_i1, s1, s2, zbd_s, zbd_s, zix_n (by omega) (by omega), zck_t, zck_t, nI_clamp (by omega), (s4 h hh).1, (s4 h hh).2]
  exact ⟨_, _, _, rfl, rfl, zI_same zRR_ok (fun q _ b => s5 q (by omega) (by omega) (by omega) (by omega)) ⟨by rw [s6], by rw [s6]⟩ ⟨by rw [s5 _ (by omega) (by omega) (by omega) (by omega)], by rw [s5 _ (by omega) (by omega) (by omega) (by omega)], by rw [s5 _ (by omega) (by omega) (by omega) (by omega)], by rw [s5 _ (by omega) (by omega) (by omega) (by omega)]⟩ (fun q hq => s7 q (by omega) (by omega) (by omega) (by omega)) (fun k _ => by rw [s7 0 (by omega) (by omega) (by omega) (by omega)]) (Or.inl ⟨by rw [s5 _ (by omega) (by omega) (by omega) (by omega)], by rw [s7 0 (by omega) (by omega) (by omega) (by omega)]⟩) hI⟩
/-! an order as a number -/
def znu (o : Nat → Nat) : Nat → Nat
  | 0 => 0
  | i + 1 => znu o i * 10 + o i
theorem znu_lt {o : Nat → Nat} : ∀ n, (∀ k, k < n → o k < 10) → znu o n < 10 ^ n := by
  intro n
  induction n with
  | zero => intro _; exact Nat.one_pos
  | succ n ih =>
    intro h
    have h1 := ih (fun k hk => h k (by omega))
    have h2 := h n (by omega)
    unfold znu
    rw [Nat.pow_succ]
    omega
theorem znu_eq {o o' : Nat → Nat} : ∀ n, (∀ k, k < n → o k < 10) → (∀ k, k < n → o' k < 10) → (znu o n = znu o' n ↔ ∀ k, k < n → o k = o' k) := by
  intro n
  induction n with
  | zero => intro _ _; exact ⟨fun _ k hk => by omega, fun _ => rfl⟩
  | succ n ih =>
    intro h h'
    have i := ih (fun k hk => h k (by omega)) (fun k hk => h' k (by omega))
    have a1 := h n (by omega)
    have a2 := h' n (by omega)
    unfold znu
    constructor
    · intro e
      have e1 : znu o n = znu o' n := by omega
      have e2 : o n = o' n := by omega
      intro k hk
      by_cases c : k = n
      · rw [c]; exact e2
      · exact i.mp e1 k (by omega)
    · intro e
      rw [i.mpr (fun k hk => e k (by omega)), e n (by omega)]
theorem fx_num_eq {S : zSt} {n : Nat} {o : Nat → Nat} (hn : n ≤ 9) (ex : S.1 4 0 = nI n) (ho : ∀ k, k < n → S.1 129 k = nI (o k) ∧ o k < n) : fx_Lineup_orderAsNumber S = some (lN (znu o n), S) := by
  have key : ∀ (f i : Nat), i ≤ n → n < i + f → fx_Lineup_orderAsNumber_L4 f (lN (znu o i)) (nI i) S = some (lN (znu o n), S) := by
    intro f
    induction f with
    | zero => intro i a b; omega
    | succ f ih =>
      intro i h1 h2
      rw [fx_Lineup_orderAsNumber_L4, ex]
      by_cases e : i = n
      · subst e
        rw [if_pos (nI_le (Nat.le_refl _) (by omega))]
      · obtain ⟨o1, o2⟩ := ho i (by omega)
        rw [if_neg (nI_ge (by omega) (by omega)), zix_n (show i < 9 by omega) (by omega), zck_t, znm_q, znm_q, nI_clamp (by omega), o1, nI_l (by omega), show (10 : Int64) = lN 10 from rfl, lN_mul, lN_add, nI_1]
        exact ih (i + 1) (by omega) (by omega)
  unfold fx_Lineup_orderAsNumber
  exact key zFU 0 (by omega) (by unfold zFU; omega)
theorem fm_isRow_eq {T : zSt} {n e : Nat} {o w : Nat → Nat} (hn : n ≤ 9) (em : T.1 1 4 = nI n) (he : e ≤ 200) (ho : ∀ k, k < n → T.1 11 k = nI (o k) ∧ o k < n) (hw : ∀ k, k < n → T.1 15 (9 * e + k) = nI (w k) ∧ w k < n) : fm_isRow T (nI e) = some (if znu w n = znu o n then 1 else 0, T) := by
  have q := znu_eq (o := w) (o' := o) n (fun k hk => by have := (hw k hk).2; omega) (fun k hk => by have := (ho k hk).2; omega)
  have key : ∀ (f i : Nat), i ≤ n → n < i + f → (∀ k, k < i → w k = o k) → fm_isRow_L2 (nI e) f (nI i) T = some (if znu w n = znu o n then 1 else 0, T) := by
    intro f
    induction f with
    | zero => intro i a b; omega
    | succ f ih =>
      intro i h1 h2 hp
      rw [fm_isRow_L2, em]
      by_cases e1 : i = n
      · subst e1
        rw [if_pos (nI_le (Nat.le_refl _) (by omega)), if_pos (q.mpr hp)]
      · obtain ⟨o1, o2⟩ := ho i (by omega)
        obtain ⟨w1, w2⟩ := hw i (by omega)
        rw [if_neg (nI_ge (by omega) (by omega)), show (9 : Int32) * nI e + nI i = nI (9 * e + i) from by rw [show (9 : Int32) = nI 9 from rfl, pk_mul, nI_add], zix_n (show 9 * e + i < 1809 by omega) (by omega), zck_t, zix_n (show i < 9 by omega) (by omega), zck_t, nI_clamp (n := 9 * e + i) (by omega), nI_clamp (n := i) (by omega), w1, o1]
        by_cases c : w i = o i
        · rw [if_pos (by rw [c]), znm_q, nI_1]
          exact ih (i + 1) (by omega) (by omega) (fun k hk => by
            by_cases d : k = i
            · rw [d]; exact c
            · exact hp k (by omega))
        · rw [if_neg (fun z => c ((nI_eq (by omega) (by omega)).mp z)), if_neg (fun z => c (q.mp z i (by omega)))]
  unfold fm_isRow
  rw [← nI_0]
  exact key zFU 0 (by omega) (by unfold zFU; omega) (fun k hk => by omega)
theorem fx_first_eq {S : zSt} {a : Nat → Int32} {n : Nat} {o : Nat → Nat} (B : zBd a n) (H : zOx S a n) (ho : ∀ i, i < n → S.1 129 i = nI (o i) ∧ o i < n) : ∃ Y : zSt, (∀ q, q ≠ 135 → Y.1 q = S.1 q) ∧ Y.2 = S.2 ∧ ((fx_Lineup_firstToChange S = some (-1, Y) ∧ ∀ i, i + 1 < n → zwc a n o i = false) ∨ (∃ i, i + 1 < n ∧ fx_Lineup_firstToChange S = some (nI i, Y) ∧ zwc a n o i = true ∧ ∀ k, k < i → zwc a n o k = false)) := by
  have hn := B.n9
  have key : ∀ (f i : Nat) (Z : zSt), i ≤ n → n < i + f → (∀ k, k < i → zwc a n o k = false) → (∀ q, q ≠ 135 → Z.1 q = S.1 q) → Z.2 = S.2 → Z.1 135 i = nI (zhp a o i) → ∃ Y : zSt, (∀ q, q ≠ 135 → Y.1 q = S.1 q) ∧ Y.2 = S.2 ∧ ((fx_Lineup_firstToChange_L20 (nI n) f (nI i) Z = some (-1, Y) ∧ ∀ i, i + 1 < n → zwc a n o i = false) ∨ (∃ k, k + 1 < n ∧ fx_Lineup_firstToChange_L20 (nI n) f (nI i) Z = some (nI k, Y) ∧ zwc a n o k = true ∧ ∀ l, l < k → zwc a n o l = false)) := by
    intro f
    induction f with
    | zero => intro i Z a b; omega
    | succ f ih =>
      intro i Z h1 h2 hf hZ hZ2 hz
      have HZ : zOx Z a n := H.c (fun q hq => hZ q (by omega))
      rw [fx_Lineup_firstToChange_L20]
      by_cases e : i + 1 < n
      · obtain ⟨o1, o2⟩ := ho i (by omega)
        obtain ⟨p1, p2⟩ := ho (i + 1) e
        have hp := zhp_le B i (fun k hk => (ho k (by omega)).2)
        have bb : ∀ g, zbb n o (i + 1) = some g → g < n := fun g hg => by
          unfold zbb at hg
          by_cases c : i + 1 + 1 < n
          · rw [if_pos c] at hg
            cases hg
            exact (ho _ c).2
          · rw [if_neg c] at hg
            cases hg
        have hw := fx_would_eq (S := Z) (p := i) (h := o i) (g := o (i + 1)) (t := zhp a o i) (bh := zbb n o (i + 1)) B HZ (by omega) o2 p2 hp bb (by rw [hZ 129 (by omega)]; exact o1) (by rw [hZ 129 (by omega)]; exact p1) hz
        have cond : ¬ (nI n - 1 : Int32) ≤ nI i := by
          rw [show (1 : Int32) = nI 1 from rfl, pk_sub (by omega)]
          exact nI_ge (by omega) (by omega)
        have st : (if nI n ≤ nI i + 2 then zbd (fx_Lineup_wouldChange Z (nI i) (-1)) (fun r_7 S_8 => if r_7 = 0 then zck (zix (nI i) 9) (zck (zix (nI i) 10) (zbd (fx_Lineup_heatAfter S_8 (S_8.1 129 (nI i).toNatClampNeg) (S_8.1 135 (nI i).toNatClampNeg)) fun r_12 S_13 => zck (zix (nI i + 1) 10) (fx_Lineup_firstToChange_L20 (nI n) f (nI i + 1) (zpI S_13 135 (nI i + 1).toNatClampNeg r_12)))) else some (nI i, S_8)) else zck (zix (nI i + 2) 9) (zbd (fx_Lineup_wouldChange Z (nI i) (Z.1 129 (nI i + 2).toNatClampNeg)) (fun r_7 S_8 => if r_7 = 0 then zck (zix (nI i) 9) (zck (zix (nI i) 10) (zbd (fx_Lineup_heatAfter S_8 (S_8.1 129 (nI i).toNatClampNeg) (S_8.1 135 (nI i).toNatClampNeg)) fun r_12 S_13 => zck (zix (nI i + 1) 10) (fx_Lineup_firstToChange_L20 (nI n) f (nI i + 1) (zpI S_13 135 (nI i + 1).toNatClampNeg r_12)))) else some (nI i, S_8)))) = if zwc a n o i = true then some (nI i, Z) else fx_Lineup_firstToChange_L20 (nI n) f (nI (i + 1)) (zpI Z 135 (i + 1) (nI (zhp a o (i + 1)))) := by
          have same : fx_Lineup_wouldChange Z (nI i) (zbh (zbb n o (i + 1))) = some (if zwc a n o i = true then 1 else 0, Z) := hw
          have tail : ∀ b : Bool, (if (if b = true then (1 : Int32) else 0) = 0 then zck (zix (nI i) 9) (zck (zix (nI i) 10) (zbd (fx_Lineup_heatAfter Z (Z.1 129 (nI i).toNatClampNeg) (Z.1 135 (nI i).toNatClampNeg)) fun r_12 S_13 => zck (zix (nI i + 1) 10) (fx_Lineup_firstToChange_L20 (nI n) f (nI i + 1) (zpI S_13 135 (nI i + 1).toNatClampNeg r_12)))) else some (nI i, Z)) = if b = true then some (nI i, Z) else fx_Lineup_firstToChange_L20 (nI n) f (nI (i + 1)) (zpI Z 135 (i + 1) (nI (zhp a o (i + 1)))) := fun b => by
            cases b with
            | true => rw [if_pos rfl, if_neg (by decide), if_pos rfl]
            | false =>
              rw [if_neg (show ¬ false = true by decide), if_pos rfl, if_neg (show ¬ false = true by decide), zix_n (show i < 9 by omega) (by omega), zck_t, zix_n (show i < 10 by omega) (by omega), zck_t, nI_clamp (n := i) (by omega), hZ 129 (by omega), o1, hz, fx_heat_eq B HZ o2 hp, zbd_s, nI_1, zix_n (show i + 1 < 10 by omega) (by omega), zck_t, nI_clamp (n := i + 1) (by omega)]
              rfl
          by_cases c : i + 1 + 1 < n
          · have eb : zbb n o (i + 1) = some (o (i + 2)) := by unfold zbb; rw [if_pos c]
            rw [eb, show zbh (some (o (i + 2))) = nI (o (i + 2)) from rfl] at same
            rw [show nI i + (2 : Int32) = nI (i + 2) from nI_add i 2, if_neg (nI_ge (by omega) (by omega)), zix_n (show i + 2 < 9 by omega) (by omega), zck_t, nI_clamp (n := i + 2) (by omega), show Z.1 129 (i + 2) = nI (o (i + 2)) from by rw [hZ 129 (by omega)]; exact (ho _ c).1, same, zbd_s]
            exact tail _
          · have eb : zbb n o (i + 1) = none := by unfold zbb; rw [if_neg c]
            rw [eb, show zbh none = -1 from rfl] at same
            rw [show nI i + (2 : Int32) = nI (i + 2) from nI_add i 2, if_pos (nI_le (by omega) (by omega)), same, zbd_s]
            exact tail _
        rw [if_neg cond]
        simp only [znm_q]
        rw [st]
        by_cases c : zwc a n o i = true
        · rw [if_pos c]
          exact ⟨Z, hZ, hZ2, Or.inr ⟨i, e, rfl, c, hf⟩⟩
        · have cf : zwc a n o i = false := by simpa using c
          rw [if_neg c]
          exact ih (i + 1) _ (by omega) (by omega) (fun k hk => by
            by_cases d : k = i
            · rw [d]; exact cf
            · exact hf k (by omega)) (fun q hq => by rw [zI_ne hq]; exact hZ q hq) hZ2 zI_at
      · rw [if_pos (show (nI n - 1 : Int32) ≤ nI i from by
          rw [zle, show (1 : Int32) = nI 1 from rfl, pk_sub_toInt (by omega) (by omega), nI_toInt (by omega)]; omega)]
        exact ⟨Z, hZ, hZ2, Or.inl ⟨rfl, fun k hk => hf k (by omega)⟩⟩
  unfold fx_Lineup_firstToChange
  rw [H.ct, znm_q, znm_q]
  obtain ⟨Y, y1, y2, y3⟩ := key zFU 0 (zpI S 135 0 0) (by omega) (by unfold zFU; omega) (fun k hk => by omega) (fun q hq => zI_ne hq) rfl zI_at
  rw [nI_0] at y3
  exact ⟨Y, y1, y2, y3⟩
theorem fx_chg_eq {S : zSt} {i : Nat} (hi : i + 1 < 9) : ∃ Y : zSt, fx_Lineup_changePlaces S (nI i) = some ((), Y) ∧ (∀ k, Y.1 129 k = if k = i then S.1 129 (i + 1) else if k = i + 1 then S.1 129 i else S.1 129 k) ∧ (∀ q, q ≠ 129 → Y.1 q = S.1 q) ∧ Y.2 = S.2 := by
  unfold fx_Lineup_changePlaces
  simp only [znm_q]
  rw [nI_1, zix_n (show i < 9 by omega) (by omega), zck_t, zix_n (show i + 1 < 9 by omega) (by omega), zck_t, zck_t, zck_t, nI_clamp (n := i) (by omega), nI_clamp (n := i + 1) (by omega)]
  refine ⟨_, rfl, fun k => ?_, fun q hq => by rw [zI_ne hq, zI_ne hq], rfl⟩
  by_cases c : k = i + 1
  · subst c
    rw [zI_at, if_neg (by omega), if_pos rfl]
  · rw [zI_nk c]
    by_cases d : k = i
    · subst d
      rw [zI_at, if_pos rfl]
    · rw [zI_nk d, if_neg d, if_neg c]
