/-! all orders: the class -/
def zSx (S : zSt) (a : Nat → Int32) (n i s : Nat) (o : Nat → Nat) : Prop :=
  (zOx S a n) ∧
  (∀ k, k < i → S.1 129 k = nI (o k)) ∧
  (∀ k, k ≤ i → S.1 135 k = nI (zhp a o k)) ∧
  (∀ h, h < 9 → S.1 136 h = if s.testBit h then 1 else 0)
theorem zSx.ox {S : zSt} {a : Nat → Int32} {n i s : Nat} {o : Nat → Nat} (H : zSx S a n i s o) : zOx S a n := H.1
theorem zSx.od {S : zSt} {a : Nat → Int32} {n i s : Nat} {o : Nat → Nat} (H : zSx S a n i s o) : ∀ k, k < i → S.1 129 k = nI (o k) := H.2.1
theorem zSx.ht {S : zSt} {a : Nat → Int32} {n i s : Nat} {o : Nat → Nat} (H : zSx S a n i s o) : ∀ k, k ≤ i → S.1 135 k = nI (zhp a o k) := H.2.2.1
theorem zSx.pl {S : zSt} {a : Nat → Int32} {n i s : Nat} {o : Nat → Nat} (H : zSx S a n i s o) : ∀ h, h < 9 → S.1 136 h = if s.testBit h then 1 else 0 := H.2.2.2
def zFx (S S' : zSt) : Prop := (∀ q, q ≠ 128 → q ≠ 129 → q ≠ 130 → q ≠ 135 → q ≠ 136 → S'.1 q = S.1 q) ∧ S'.2 = S.2
theorem zFx.rf (S : zSt) : zFx S S := ⟨fun _ _ _ _ _ _ => rfl, rfl⟩
theorem zFx.tr {T U V : zSt} (h : zFx T U) (g : zFx U V) : zFx T V := ⟨fun q a b c d e => by rw [g.1 q a b c d e, h.1 q a b c d e], by rw [g.2, h.2]⟩
theorem zOx.f {S S' : zSt} {a : Nat → Int32} {n : Nat} (H : zOx S a n) (h : zFx S S') : zOx S' a n := H.c (fun q hq => h.1 q (by omega) (by omega) (by omega) (by omega) (by omega))
theorem fx_step_eq {S : zSt} {a : Nat → Int32} {n i s h : Nat} {o : Nat → Nat} (B : zBd a n) (H : zSx S a n i s o) (ho : ∀ k, k < i → o k < n) (hi : i < n) (hh : h < n) : ∃ S' : zSt, fx_Lineup_step S (nI i) (nI h) = some ((), S') ∧ zSx S' a n (i + 1) (s ||| 2 ^ h) (zup o i h) ∧ zFx S S' ∧ S'.1 128 = S.1 128 ∧ S'.1 130 = S.1 130 := by
  have hn := B.n9
  have hp := zhp_le B i ho
  have e1 : (zpI (zpI S 136 h 1) 129 i (nI h)).1 135 i = nI (zhp a o i) := by rw [zI_ne (by omega), zI_ne (by omega)]; exact H.ht i (Nat.le_refl _)
  have ox2 : zOx (zpI (zpI S 136 h 1) 129 i (nI h)) a n := H.ox.c (fun q hq => by rw [zI_ne (by omega), zI_ne (by omega)])
  unfold fx_Lineup_step
  simp only [znm_q]
  rw [nI_1, zix_n (show h < 9 by omega) (by omega), zck_t, zix_n (show i < 9 by omega) (by omega), zck_t, zix_n (show i < 10 by omega) (by omega), zck_t, nI_clamp (n := h) (by omega), nI_clamp (n := i) (by omega), e1, fx_heat_eq B ox2 hh hp, zbd_s, zix_n (show i + 1 < 10 by omega) (by omega), zck_t, nI_clamp (n := i + 1) (by omega)]
  have hz : ∀ k, k ≤ i → zhp a (zup o i h) k = zhp a o k := fun k hk => zhp_c k (fun l hl => by unfold zup; rw [if_neg (by omega)])
  refine ⟨_, rfl, ⟨ox2.c (fun q hq => by rw [zI_ne (by omega)]), fun k hk => ?_, fun k hk => ?_, fun g hg => ?_⟩, ⟨fun q q1 q2 q3 q4 q5 => by rw [zI_ne q4, zI_ne q2, zI_ne q5], rfl⟩, by rw [zI_ne (by omega), zI_ne (by omega), zI_ne (by omega)], by rw [zI_ne (by omega), zI_ne (by omega), zI_ne (by omega)]⟩
  · rw [zI_ne (by omega)]
    unfold zup
    by_cases c : k = i
    · subst c; rw [zI_at, if_pos rfl]
    · rw [zI_nk c, zI_ne (by omega), if_neg c]; exact H.od k (by omega)
  · by_cases c : k = i + 1
    · subst c
      rw [zI_at, zhp, hz i (Nat.le_refl _), show zup o i h i = h from by unfold zup; rw [if_pos rfl]]
    · rw [zI_nk c, zI_ne (by omega), zI_ne (by omega), hz k (by omega)]
      exact H.ht k (by omega)
  · rw [zI_ne (by omega), zI_ne (by omega), zor_tb]
    by_cases c : g = h
    · subst c
      rw [zI_at]
      simp
    · rw [zI_nk c, show decide (g = h) = false from decide_eq_false c, Bool.or_false]
      exact H.pl g hg
/-- behind the recursion: the place is free again -/
theorem zSx_back {S : zSt} {a : Nat → Int32} {n i s h : Nat} {o : Nat → Nat} (H : zSx S a n (i + 1) (s ||| 2 ^ h) (zup o i h)) (bf : s.testBit h = false) : zSx (zpI S 136 h 0) a n i s o := by
  refine ⟨H.ox.c (fun q hq => by rw [zI_ne (by omega)]), fun k hk => ?_, fun k hk => ?_, fun g hg => ?_⟩
  · rw [zI_ne (by omega), H.od k (by omega)]
    unfold zup
    rw [if_neg (by omega)]
  · rw [zI_ne (by omega), H.ht k (by omega), zhp_c k (fun l hl => by unfold zup; rw [if_neg (by omega)])]
  · by_cases c : g = h
    · subst c
      rw [zI_at, bf]
      rfl
    · have := H.pl g hg
      rw [zor_tb, show decide (g = h) = false from decide_eq_false c, Bool.or_false] at this
      rw [zI_nk c]
      exact this
def zGd (a : Nat → Int32) (o : Nat → Nat) (i : Nat) : Prop := ∀ p, p + 2 < i → zWo a p (o p) (o (p + 1)) (zhp a o p) (some (o (p + 2))) = false
def zR1 (n : Nat) (S T : zSt) (c : Nat) : Prop := S.1 128 3 = nI c ∧ T.1 0 29 = nI c ∧ (c ≠ 0 → ∀ k, k < n → S.1 130 k = T.1 13 k)
theorem zwc_in {a : Nat → Int32} {n p : Nat} {o : Nat → Nat} (h : p + 2 < n) : zwc a n o p = zWo a p (o p) (o (p + 1)) (zhp a o p) (some (o (p + 2))) := by
  unfold zwc zbb
  rw [if_pos (by omega)]
theorem zs_orders {a : Nat → Int32} {n : Nat} (B : zBd a n) (hn7 : n ≤ 7) : ∀ (e d1 d2 i s c : Nat) (o : Nat → Nat) (S T : zSt), i + e = n → e < d1 → e < d2 → s < 512 → zct s n = i → zSx S a n i s o → T.1 1 = a → (∀ k, k < i → T.1 11 k = nI (o k) ∧ o k < n) → zGd a o i → zR1 n S T c → c + 9 ^ e < 2 ^ 31 → ∃ (S' T' : zSt) (c' : Nat), fx_Lineup_searchSettled_c d1 S (nI i) = some ((), S') ∧ fm_goesThrough_c d2 T (nI i) (nI s) = some ((), T') ∧ zSx S' a n i s o ∧ zFx S S' ∧ zFr T T' ∧ (∀ k, k < i → T'.1 11 k = T.1 11 k) ∧ zR1 n S' T' c' ∧ c' ≤ c + 9 ^ e := by
  have hn := B.n9
  intro e
  induction e with
  | zero =>
    intro d1 d2 i s c o S T he hd1 hd2 hs hct hS hT ho hg hr hc
    obtain ⟨d1, rfl⟩ : ∃ k, d1 = k + 1 := ⟨d1 - 1, by omega⟩
    obtain ⟨d2, rfl⟩ : ∃ k, d2 = k + 1 := ⟨d2 - 1, by omega⟩
    obtain rfl : i = n := by omega
    obtain ⟨r1, r2, r3⟩ := hr
    rw [fm_goesThrough_c, fx_Lineup_searchSettled_c]
    obtain ⟨T', t1, t2, t3, t4, t5⟩ := fm_leaf (rec := fm_goesThrough_c d2) (u := nI s) B hT ho
    unfold fx_Lineup_searchSettled
    rw [hS.ox.ct, znm_q, if_neg (nI_nlt (Nat.le_refl _) (by omega))]
    -- the class's leaf
    have note : ∀ Z : zSt, Z = S → ∃ S' : zSt, (if S.1 128 3 = 0 then some ((), zpI (zcI S 130 (va_cpy (S.1 129) (S.1 130) 0 0 9)) 128 3 ((zcI S 130 (va_cpy (S.1 129) (S.1 130) 0 0 9)).1 128 3 + 1)) else some ((), zpI S 128 3 (S.1 128 3 + 1))) = some ((), S') ∧ zSx S' a i i s o ∧ zFx S S' ∧ S'.1 128 3 = nI (c + 1) ∧ (c = 0 → ∀ k, k < i → S'.1 130 k = nI (o k)) ∧ (c ≠ 0 → S'.1 130 = S.1 130) := by
      intro Z _
      rw [r1]
      by_cases c0 : c = 0
      · rw [if_pos (by rw [c0]; rfl), zcI_ne (by omega), r1, nI_1]
        refine ⟨_, rfl, ⟨hS.ox.c (fun q hq => by rw [zI_ne (by omega), zcI_ne (by omega)]), fun k hk => by rw [zI_ne (by omega), zcI_ne (by omega)]; exact hS.od k hk, fun k hk => by rw [zI_ne (by omega), zcI_ne (by omega)]; exact hS.ht k hk, fun g hg => by rw [zI_ne (by omega), zcI_ne (by omega)]; exact hS.pl g hg⟩, ⟨fun q q1 q2 q3 q4 q5 => by rw [zI_ne q1, zcI_ne q3], rfl⟩, zI_at, fun _ k hk => ?_, fun q => absurd c0 q⟩
        rw [zI_ne (by omega), zcI_eq, z_cp (by omega)]
        exact hS.od k hk
      · rw [if_neg (nI_ne0 (by omega) (by omega)), nI_1]
        refine ⟨_, rfl, ⟨hS.ox.c (fun q hq => by rw [zI_ne (by omega)]), fun k hk => by rw [zI_ne (by omega)]; exact hS.od k hk, fun k hk => by rw [zI_ne (by omega)]; exact hS.ht k hk, fun g hg => by rw [zI_ne (by omega)]; exact hS.pl g hg⟩, ⟨fun q q1 q2 q3 q4 q5 => by rw [zI_ne q1], rfl⟩, zI_at, fun q => absurd q c0, fun _ => by rw [zI_ne (by omega)]⟩
    obtain ⟨S', s1, s2, s3, s4, s5, s6⟩ := note S rfl
    have settled : (∀ p, p + 1 < i → zwc a i o p = false) → ∃ (T'' : zSt) (c' : Nat), T'' = T' ∧ zR1 i S' T'' c' ∧ c' ≤ c + 9 ^ 0 := fun hall => by
      refine ⟨T', c + 1, rfl, ⟨s4, ?_, fun _ k hk => ?_⟩, by omega⟩
      · rcases t5 with ⟨_, q, _⟩ | ⟨⟨p, p1, p2⟩, _⟩
        · rw [q, r2, nI_1]
        · rw [hall p p1] at p2; cases p2
      · rcases t5 with ⟨_, q, q2⟩ | ⟨⟨p, p1, p2⟩, _⟩
        · rcases q2 with ⟨z, q2⟩ | ⟨z, q2⟩
          · have c0 : c = 0 := by
              rw [r2] at z
              exact (nI_eq (by omega) (by omega)).mp z
            rw [s5 c0 k hk, q2 k hk]
          · have c0 : c ≠ 0 := fun q => z (by rw [r2, q]; rfl)
            rw [s6 c0, q2]
            exact r3 c0 k hk
        · rw [hall p p1] at p2; cases p2
    by_cases n2 : i < 2
    · have : fx_Lineup_noteIfSettled S (nI i) = some ((), S') := by
        unfold fx_Lineup_noteIfSettled
        simp only [znm_q]
        rw [if_pos (show nI i < (2 : Int32) from nI_lt (b := 2) n2 (by omega))]
        exact s1
      obtain ⟨T'', c', rfl, k1, k2⟩ := settled (fun p hp => by omega)
      rw [this, zbd_s]
      exact ⟨S', T'', c', rfl, t1, s2, s3, t2, fun k _ => by rw [t3], k1, k2⟩
    · have hw := fx_would_eq (S := S) (p := i - 2) (h := o (i - 2)) (g := o (i - 1)) (t := zhp a o (i - 2)) (bh := none) B hS.ox (by omega) (ho _ (by omega)).2 (ho _ (by omega)).2 (zhp_le B _ (fun k hk => (ho k (by omega)).2)) (fun k q => by cases q) (hS.od _ (by omega)) (by rw [show i - 2 + 1 = i - 1 by omega]; exact hS.od _ (by omega)) (hS.ht _ (by omega))
      have last : zwc a i o (i - 2) = zWo a (i - 2) (o (i - 2)) (o (i - 1)) (zhp a o (i - 2)) none := by
        unfold zwc zbb
        rw [if_neg (by omega), show i - 2 + 1 = i - 1 by omega]
      have nt : fx_Lineup_noteIfSettled S (nI i) = if zwc a i o (i - 2) = true then some ((), S) else some ((), S') := by
        unfold fx_Lineup_noteIfSettled
        simp only [znm_q]
        rw [if_neg (show ¬ nI i < (2 : Int32) from nI_nlt (b := 2) (by omega) (by omega)), show nI i - (2 : Int32) = nI (i - 2) from by rw [show (2 : Int32) = nI 2 from rfl, pk_sub (by omega)], show (-1 : Int32) = zbh none from rfl, hw, zbd_s, last]
        by_cases c1 : zWo a (i - 2) (o (i - 2)) (o (i - 1)) (zhp a o (i - 2)) none = true
        · rw [if_pos c1, z_i1, if_pos c1]
        · rw [if_neg c1, z_i0, if_neg c1]
          exact s1
      rw [nt]
      by_cases c1 : zwc a i o (i - 2) = true
      · rw [if_pos c1, zbd_s]
        refine ⟨S, T', c, rfl, t1, hS, zFx.rf S, t2, fun k _ => by rw [t3], ⟨r1, ?_, fun c0 k hk => ?_⟩, by omega⟩
        · rcases t5 with ⟨q, _⟩ | ⟨_, q, _⟩
          · rw [q (i - 2) (by omega)] at c1; cases c1
          · rw [q, r2]
        · rcases t5 with ⟨q, _⟩ | ⟨_, _, q⟩
          · rw [q (i - 2) (by omega)] at c1; cases c1
          · rw [q]; exact r3 c0 k hk
      · rw [if_neg c1, zbd_s]
        obtain ⟨T'', c', rfl, k1, k2⟩ := settled (fun p hp => by
          by_cases d : p + 2 < i
          · rw [zwc_in d]; exact hg p d
          · obtain rfl : p = i - 2 := by omega
            simpa using c1)
        exact ⟨S', T'', c', rfl, t1, s2, s3, t2, fun k _ => by rw [t3], k1, k2⟩
  | succ e ih =>
    intro d1 d2 i s c o S T he hd1 hd2 hs hct hS hT ho hg hr hc
    obtain ⟨d1, rfl⟩ : ∃ k, d1 = k + 1 := ⟨d1 - 1, by omega⟩
    obtain ⟨d2, rfl⟩ : ∃ k, d2 = k + 1 := ⟨d2 - 1, by omega⟩
    have hin : i < n := by omega
    have p9 : 9 ^ (e + 1) = 9 ^ e * 9 := Nat.pow_succ ..
    have p0 : 0 < 9 ^ e := Nat.pow_pos (by omega)
    rw [fm_goesThrough_c, fx_Lineup_searchSettled_c]
    unfold fm_goesThrough fx_Lineup_searchSettled
    rw [hT, B.a4, hS.ox.ct, znm_q, znm_q, if_neg (nI_ge hin (by omega)), if_pos (nI_lt hin (by omega))]
    have key : ∀ (f h c1 : Nat) (Y Z : zSt), h ≤ n → n < h + f → zSx Y a n i s o → zFx S Y → Z.1 1 = a → zFr T Z → (∀ k, k < i → Z.1 11 k = T.1 11 k) → zR1 n Y Z c1 → c1 ≤ c + h * 9 ^ e → ∃ (S' T' : zSt) (c' : Nat), fx_Lineup_searchSettled_L24 (fx_Lineup_searchSettled_c d1) (nI i) (nI n) f (nI h) Y = some ((), S') ∧ fm_goesThrough_L15 (fm_goesThrough_c d2) (nI i) (nI s) (nI n) f (nI h) Z = some ((), T') ∧ zSx S' a n i s o ∧ zFx S S' ∧ zFr T T' ∧ (∀ k, k < i → T'.1 11 k = T.1 11 k) ∧ zR1 n S' T' c' ∧ c' ≤ c + 9 ^ (e + 1) := by
      intro f
      induction f with
      | zero => intro h c1 Y Z a b; omega
      | succ f ihf =>
        intro h c1 Y Z h1 h2 hY hfx hZ hfr hpre hr1 hc1
        have hle : h * 9 ^ e ≤ 9 * 9 ^ e := Nat.mul_le_mul_right _ (by omega)
        rw [fm_goesThrough_L15, fx_Lineup_searchSettled_L24]
        by_cases e1 : h = n
        · subst e1
          rw [if_pos (nI_le (Nat.le_refl _) (by omega)), if_pos (nI_le (Nat.le_refl _) (by omega))]
          exact ⟨Y, Z, c1, rfl, rfl, hY, hfx, hfr, hpre, hr1, by omega⟩
        have hh : h < n := by omega
        have hs1 : (h + 1) * 9 ^ e = h * 9 ^ e + 9 ^ e := Nat.succ_mul ..
        rw [if_neg (nI_ge hh (by omega)), if_neg (nI_ge hh (by omega)), zix_n (show h < 9 by omega) (by omega), zck_t]
        simp only [znm_q, zck_q]
        rw [nI_1 h, nI_1 i, nI_clamp (n := h) (by omega), hY.pl h (by omega)]
        have hle1 : (h + 1) * 9 ^ e ≤ 9 * 9 ^ e := Nat.mul_le_mul_right _ (by omega)
        by_cases b : s.testBit h = true
        · rw [if_pos b, if_neg (show ¬ (1 : Int32) = 0 by decide), if_pos ((zmb9 s hs h (by omega)).mpr b)]
          exact ihf (h + 1) c1 Y Z (by omega) (by omega) hY hfx hZ hfr hpre hr1 (by omega)
        · have bf : s.testBit h = false := by simpa using b
          obtain ⟨z1, z2⟩ := zor9 s hs h (by omega)
          rw [if_neg b, if_pos rfl, if_neg (fun q => b ((zmb9 s hs h (by omega)).mp q)), zix_n (show i < 9 by omega) (by omega), zck_t, nI_clamp (n := i) (by omega), z1]
          have hoz : ∀ k, k < i + 1 → (zpI Z 11 i (nI h)).1 11 k = nI (zup o i h k) ∧ zup o i h k < n := fun k hk => by
            unfold zup
            by_cases c : k = i
            · subst c
              rw [zI_at, if_pos rfl]
              exact ⟨rfl, hh⟩
            · rw [zI_nk c, if_neg c, hpre k (by omega)]
              exact ho k (by omega)
          have frz : ∀ T2 : zSt, zFr (zpI Z 11 i (nI h)) T2 → (∀ k, k < i + 1 → T2.1 11 k = (zpI Z 11 i (nI h)).1 11 k) → T2.1 1 = a ∧ zFr T T2 ∧ (∀ k, k < i → T2.1 11 k = T.1 11 k) := fun T2 t2 t3 => ⟨by rw [t2.1 1 (by omega) (by omega) (by omega) (by omega) (by omega), zI_ne (by omega)]; exact hZ, hfr.tr ⟨fun q a b c d e => by rw [t2.1 q a b c d e, zI_ne b], fun k a b c => by rw [t2.2 k a b c, zI_ne (by omega)]⟩, fun k hk => by rw [t3 k (by omega), zI_nk (by omega)]; exact hpre k hk⟩
          -- both go on
          have go : (∀ p, p + 2 = i → zWo a p (o p) (o (p + 1)) (zhp a o p) (some h) = false) → ∃ (S' T' : zSt) (c' : Nat), (zbd (fx_Lineup_step Y (nI i) (nI h)) fun _ S_9 => zbd (fx_Lineup_searchSettled_c d1 S_9 (nI (i + 1))) fun _ S_12 => fx_Lineup_searchSettled_L24 (fx_Lineup_searchSettled_c d1) (nI i) (nI n) f (nI (h + 1)) (zpI S_12 136 h 0)) = some ((), S') ∧ (zbd (fm_goesThrough_c d2 (zpI Z 11 i (nI h)) (nI (i + 1)) (nI (s ||| 2 ^ h))) fun _ S_43 => fm_goesThrough_L15 (fm_goesThrough_c d2) (nI i) (nI s) (nI n) f (nI (h + 1)) S_43) = some ((), T') ∧ zSx S' a n i s o ∧ zFx S S' ∧ zFr T T' ∧ (∀ k, k < i → T'.1 11 k = T.1 11 k) ∧ zR1 n S' T' c' ∧ c' ≤ c + 9 ^ (e + 1) := fun hok => by
            obtain ⟨Y1, y1, y2, y3, y4, y5⟩ := fx_step_eq B hY (fun k hk => (ho k hk).2) hin hh
            obtain ⟨S2, T2, c2, k1, k2, k3, k4, k5, k6, k7, k8⟩ := ih d1 d2 (i + 1) (s ||| 2 ^ h) c1 (zup o i h) Y1 (zpI Z 11 i (nI h)) (by omega) (by omega) (by omega) z2 (by rw [zct_or bf, if_pos hh, hct]) y2 (by rw [zI_ne (by omega)]; exact hZ) hoz (fun p hp => by
              have u : ∀ k, k < i → zup o i h k = o k := fun k hk => by unfold zup; rw [if_neg (by omega)]
              have hz : zhp a (zup o i h) p = zhp a o p := zhp_c p (fun l hl => u l (by omega))
              by_cases d : p + 2 = i
              · rw [u p (by omega), u (p + 1) (by omega), hz, show zup o i h (p + 2) = h from by unfold zup; rw [if_pos d]]
                exact hok p d
              · rw [u p (by omega), u (p + 1) (by omega), u (p + 2) (by omega), hz]
                exact hg p (by omega)) ⟨by rw [y4]; exact hr1.1, by rw [zI_ne (by omega)]; exact hr1.2.1, fun c0 k hk => by rw [y5, zI_ne (by omega)]; exact hr1.2.2 c0 k hk⟩ (by omega)
            obtain ⟨g1, g2, g3⟩ := frz T2 k5 k6
            rw [y1, zbd_s, k1, zbd_s, k2, zbd_s]
            exact ihf (h + 1) c2 (zpI S2 136 h 0) T2 (by omega) (by omega) (zSx_back k3 bf) ((hfx.tr y3).tr (k4.tr ⟨fun q q1 q2 q3 q4 q5 => zI_ne q5, rfl⟩)) g1 g2 g3 ⟨by rw [zI_ne (by omega)]; exact k7.1, k7.2.1, fun c0 k hk => by rw [zI_ne (by omega)]; exact k7.2.2 c0 k hk⟩ (by omega)
          by_cases i2 : i < 2
          · rw [if_pos (show nI i < (2 : Int32) from nI_lt (b := 2) i2 (by omega))]
            exact go (fun p hp => by omega)
          · have hw := fx_would_eq (S := Y) (p := i - 2) (h := o (i - 2)) (g := o (i - 1)) (t := zhp a o (i - 2)) (bh := some h) B hY.ox (by omega) (ho _ (by omega)).2 (ho _ (by omega)).2 (zhp_le B _ (fun k hk => (ho k (by omega)).2)) (fun k q => by cases q; exact hh) (hY.od _ (by omega)) (by rw [show i - 2 + 1 = i - 1 by omega]; exact hY.od _ (by omega)) (hY.ht _ (by omega))
            rw [show zbh (some h) = nI h from rfl] at hw
            rw [if_neg (show ¬ nI i < (2 : Int32) from nI_nlt (b := 2) (by omega) (by omega)), show nI i - (2 : Int32) = nI (i - 2) from by rw [show (2 : Int32) = nI 2 from rfl, pk_sub (by omega)], hw, zbd_s]
            by_cases w : zWo a (i - 2) (o (i - 2)) (o (i - 1)) (zhp a o (i - 2)) (some h) = true
            · rw [if_pos w, if_neg (show ¬ (1 : Int32) = 0 by decide)]
              -- the class leaves this part out; the reference finds nothing in it
              obtain ⟨T2, t1, t2, t3, t4⟩ := fm_sub B (fun U => U.1 0 29 = Z.1 0 29 ∧ U.1 13 = Z.1 13) (fun U U' u1 _ u3 _ hu => ⟨by rw [u3]; exact hu.1, by rw [u1]; exact hu.2⟩) e d2 (i + 1) (s ||| 2 ^ h) (zup o i h) (zpI Z 11 i (nI h)) (by omega) (by omega) z2 (by rw [zct_or bf, if_pos hh, hct]) (by rw [zI_ne (by omega)]; exact hZ) hoz (fun o' q1 q2 U U' hu hl => by
                have u : ∀ k, k < i → o' k = o k := fun k hk => by rw [q1 k (by omega)]; unfold zup; rw [if_neg (by omega)]
                have bad : zwc a n o' (i - 2) = true := by
                  rw [zwc_in (by omega), show i - 2 + 1 = i - 1 by omega, show i - 2 + 2 = i by omega, u (i - 2) (by omega), u (i - 1) (by omega), q1 i (by omega), show zup o i h i = h from by unfold zup; rw [if_pos rfl], zhp_c (i - 2) (fun l hl => u l (by omega))]
                  exact w
                rcases hl.2 with ⟨q, _⟩ | ⟨_, q3, q4⟩
                · rw [q (i - 2) (by omega)] at bad; cases bad
                · exact ⟨by rw [q3]; exact hu.1, by rw [q4]; exact hu.2⟩) ⟨by rw [zI_ne (by omega)], by rw [zI_ne (by omega)]⟩
              obtain ⟨g1, g2, g3⟩ := frz T2 t2 t3
              rw [t1, zbd_s]
              exact ihf (h + 1) c1 Y T2 (by omega) (by omega) hY hfx g1 g2 g3 ⟨hr1.1, by rw [t4.1]; exact hr1.2.1, fun c0 k hk => by rw [t4.2]; exact hr1.2.2 c0 k hk⟩ (by omega)
            · rw [if_neg w, if_pos rfl]
              refine go (fun p hp => ?_)
              obtain rfl : p = i - 2 := by omega
              rw [show i - 2 + 1 = i - 1 by omega]
              simpa using w
    rw [← nI_0]
    exact key zFU 0 c S T (by omega) (by unfold zFU; omega) hS (zFx.rf S) hT (zFr.rf T) (fun _ _ => rfl) hr (by omega)
